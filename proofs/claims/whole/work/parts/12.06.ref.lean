def f_X12_fill_b94 (o0 : Nat) (x3 : Int32) (x4 : Int32) (x5 : Int32) (h : mh_H) : Option (Int32 × mh_H) :=
  (mh_gR h o0 12 1).bind fun a1 =>
  (mh_aI h a1 0 ((x4 + (13 : Int32)) + x5)).bind fun v2 =>
  (mh_gR h o0 12 1).bind fun a3 =>
  (mh_sI h a3 ((x4 + (13 : Int32)) + x5) x3).bind fun h4 =>
  (mh_cal h4 o0 12 (f_X12_changed_e o0 h4)).bind fun h5 =>
  some (v2, h5)
def f_X12_fill_b130 (k27 : Nat → Int32 → Int32 → Int32 → Int32 → Int32 → mh_H → Option (Int32 × mh_H)) (o0 : Nat) (x1 : Int32) (x2 : Int32) (x3 : Int32) (x4 : Int32) (x5 : Int32) (h : mh_H) : Option (Int32 × mh_H) :=
  mh_nm (x5 + Int32.ofInt (1)) fun v6 =>
  k27 o0 x1 x2 x3 x4 v6 h
def f_X12_fill_b136 (h : mh_H) : Option (Int32 × mh_H) :=
  some ((-1 : Int32), h)
def f_X12_fill_b27 : Nat → Nat → Int32 → Int32 → Int32 → Int32 → Int32 → mh_H → Option (Int32 × mh_H)
  | 0, _, _, _, _, _, _, _ => none
  | n + 1, o0, x1, x2, x3, x4, x5, h =>
    (mh_gR h o0 12 1).bind fun a7 =>
    (mh_aI h a7 0 x4).bind fun v8 =>
    if v8 ≤ x5 then (
    f_X12_fill_b136 h) else
    (mh_gR h o0 12 1).bind fun a9 =>
    (mh_aI h a9 0 ((x4 + (1 : Int32)) + x5)).bind fun v10 =>
    if v10 = x2 then (
    if x3 < 0 then (
    f_X12_fill_b130 (f_X12_fill_b27 n) o0 x1 x2 x3 x4 x5 h) else
    if (20 : Int32) < x3 then (
    f_X12_fill_b130 (f_X12_fill_b27 n) o0 x1 x2 x3 x4 x5 h) else
    mh_b2 (mh_cal h o0 12 (f_X12_allOf_e o0 x1 h)) fun v12 h11 =>
    (mh_gR h11 o0 12 1).bind fun a13 =>
    (mh_aI h11 a13 0 ((x4 + (13 : Int32)) + x5)).bind fun v14 =>
    if (20000 : Int32) < (v12 + ((x3 - v14) * x2)) then (
    f_X12_fill_b130 (f_X12_fill_b27 n) o0 x1 x2 x3 x4 x5 h11) else
    f_X12_fill_b94 o0 x3 x4 x5 h11) else
    f_X12_fill_b130 (f_X12_fill_b27 n) o0 x1 x2 x3 x4 x5 h
def f_X12_fill_e (o0 : Nat) (x1 : Int32) (x2 : Int32) (x3 : Int32) (h : mh_H) : Option (Int32 × mh_H) :=
  (mh_pI h o0 12 0 (0 : Int32)).bind fun h15 =>
  mh_b2 (f_X12_isMint_e x1 h15) fun v17 h16 =>
  if v17 = 0 then (
  mh_b2 (mh_cal h16 o0 12 (f_X12_fail_e o0 (1 : Int32) h16)) fun v22 h21 =>
  some (v22, h21)) else
  mh_b2 (f_X12_purseAt_e x1 h16) fun v19 h18 =>
  mh_nm (0 : Int32) fun v20 =>
  f_X12_fill_b27 mh_fu o0 x1 x2 x3 v19 v20 h18
set_option maxRecDepth 100000 in
set_option maxHeartbeats 4000000 in
theorem w_X12_fill_b94 {p : Program} {l : Launch} {e : Env} {s : State} {m : MethodId} {args : Array Value} {below : List Frame} {meth : Method} {c : Code} {D : va_G} {ks : Nat → ClassId} {L : List Nat} {r : Int32} {h' : mh_H} (cx : mh_C p m c cX12_fill 7 s args RX12 meth D ks (mh_A L s.heap.size)) (hr : meth.sig.returnType = (some .int)) :
    ∀ (o0 : Nat) (x3 : Int32) (x4 : Int32) (x5 : Int32) (h : mh_H) (H : Heap) (locs : List Loc) (ls : Array Slot), mh_W D ks L (mh_A L s.heap.size) s.heap h H locs → lv_has ls 7 [(0, .ref o0), (3, .int x3), (4, .int x4), (5, .int x5)] → f_X12_fill_b94 o0 x3 x4 x5 h = some (r, h') → W p l e (mh_rm 2) s m args below meth c H locs 0 0 (MQ below (mh_Qi D ks L s.heap.size r h') args s 0 0 (mh_A L s.heap.size)) (F0 m 94 ls []) := by
  intro o0 x3 x4 x5 h H locs ls wd hl hX
  have hx := cx.1.1
  have hb := cx.1.2.1
  unfold f_X12_fill_b94 at hX
  refine lv_aload_n hx hb dX12_fill_94 rfl (lv_at hl 0 rfl) ?_
  refine mh_getR cx wd fl_X12_9 dX12_fill_95 hX (fun a1 hX => ?_)
  refine lv_iload hx hb dX12_fill_98 (lv_at hl 2 rfl) ?_
  refine lv_bipush (v := 13) hx hb dX12_fill_100 (by decide) ?_
  refine lv_iadd hx hb dX12_fill_102 ?_
  refine lv_iload hx hb dX12_fill_103 (lv_at hl 3 rfl) ?_
  refine lv_iadd hx hb dX12_fill_105 ?_
  refine mh_iald cx wd dX12_fill_106 hX (fun v2 hX => ?_)
  refine lv_istore (lv' := [(6, .int v2), (0, .ref o0), (3, .int x3), (4, .int x4), (5, .int x5)]) hx hb dX12_fill_107 hl (Nat.le_of_ble_eq_true rfl) rfl (fun ls hl => ?_)
  refine lv_aload_n hx hb dX12_fill_109 rfl (lv_at hl 1 rfl) ?_
  refine mh_getR cx wd fl_X12_9 dX12_fill_110 hX (fun a3 hX => ?_)
  refine lv_iload hx hb dX12_fill_113 (lv_at hl 3 rfl) ?_
  refine lv_bipush (v := 13) hx hb dX12_fill_115 (by decide) ?_
  refine lv_iadd hx hb dX12_fill_117 ?_
  refine lv_iload hx hb dX12_fill_118 (lv_at hl 4 rfl) ?_
  refine lv_iadd hx hb dX12_fill_120 ?_
  refine lv_iload_n hx hb dX12_fill_121 rfl (lv_at hl 2 rfl) ?_
  refine mh_iast cx wd dX12_fill_122 hX (fun h4 H locs wd hX => ?_)
  refine lv_aload_n hx hb dX12_fill_123 rfl (lv_at hl 1 rfl) ?_
  refine mh_callVV cx wd [] (rfl : vwCl[12]? = some (RX12, TX12, 38)) yw_X12_changed vw_X12_119 rfl hl.1 rfl (Nat.le_of_ble_eq_true rfl) dX12_fill_124 ⟨Nat.le_of_ble_eq_true rfl, Nat.le_of_ble_eq_true rfl⟩ ⟨Nat.le_refl _, Nat.le_refl _⟩ (fun _ q => c_X12_changed q) hX (fun h5 H locs wd hX => ?_)
  refine lv_iload hx hb dX12_fill_127 (lv_at hl 0 rfl) ?_
  exact mh_iret cx wd hr hX dX12_fill_129
set_option maxRecDepth 100000 in
set_option maxHeartbeats 4000000 in
theorem w_X12_fill_b130 {p : Program} {l : Launch} {e : Env} {s : State} {m : MethodId} {args : Array Value} {below : List Frame} {meth : Method} {c : Code} {D : va_G} {ks : Nat → ClassId} {L : List Nat} {r : Int32} {h' : mh_H} (k27 : Nat → Int32 → Int32 → Int32 → Int32 → Int32 → mh_H → Option (Int32 × mh_H)) (cx : mh_C p m c cX12_fill 7 s args RX12 meth D ks (mh_A L s.heap.size)) (hr : meth.sig.returnType = (some .int))
    (hk27 : ∀ (o0 : Nat) (x1 : Int32) (x2 : Int32) (x3 : Int32) (x4 : Int32) (x5 : Int32) (h : mh_H) (H : Heap) (locs : List Loc) (ls : Array Slot), mh_W D ks L (mh_A L s.heap.size) s.heap h H locs → lv_has ls 7 [(0, .ref o0), (1, .int x1), (2, .int x2), (3, .int x3), (4, .int x4), (5, .int x5)] → k27 o0 x1 x2 x3 x4 x5 h = some (r, h') → W p l e (mh_rm 2) s m args below meth c H locs 0 0 (MQ below (mh_Qi D ks L s.heap.size r h') args s 0 0 (mh_A L s.heap.size)) (F0 m 27 ls [])) :
    ∀ (o0 : Nat) (x1 : Int32) (x2 : Int32) (x3 : Int32) (x4 : Int32) (x5 : Int32) (h : mh_H) (H : Heap) (locs : List Loc) (ls : Array Slot), mh_W D ks L (mh_A L s.heap.size) s.heap h H locs → lv_has ls 7 [(0, .ref o0), (1, .int x1), (2, .int x2), (3, .int x3), (4, .int x4), (5, .int x5)] → f_X12_fill_b130 k27 o0 x1 x2 x3 x4 x5 h = some (r, h') → W p l e (mh_rm 2) s m args below meth c H locs 0 0 (MQ below (mh_Qi D ks L s.heap.size r h') args s 0 0 (mh_A L s.heap.size)) (F0 m 130 ls []) := by
  intro o0 x1 x2 x3 x4 x5 h H locs ls wd hl hX
  have hx := cx.1.1
  have hb := cx.1.2.1
  unfold f_X12_fill_b130 at hX
  obtain ⟨v6, ev6, hX⟩ := mh_nmx hX
  refine lv_iinc (k := 5) (v := v6) (lv' := [(5, .int v6), (0, .ref o0), (1, .int x1), (2, .int x2), (3, .int x3), (4, .int x4)]) hx hb dX12_fill_130 hl rfl ev6 (Nat.le_of_ble_eq_true rfl) rfl (fun ls hl => ?_)
  refine lv_goto (tgt := 27) hx hb dX12_fill_133 rfl ?_
  exact hk27 _ _ _ _ _ _ h _ _ ls wd (lv_sub hl [1, 2, 3, 4, 5, 0] rfl) hX
set_option maxRecDepth 100000 in
set_option maxHeartbeats 4000000 in
theorem w_X12_fill_b136 {p : Program} {l : Launch} {e : Env} {s : State} {m : MethodId} {args : Array Value} {below : List Frame} {meth : Method} {c : Code} {D : va_G} {ks : Nat → ClassId} {L : List Nat} {r : Int32} {h' : mh_H} (cx : mh_C p m c cX12_fill 7 s args RX12 meth D ks (mh_A L s.heap.size)) (hr : meth.sig.returnType = (some .int)) :
    ∀ (h : mh_H) (H : Heap) (locs : List Loc) (ls : Array Slot), mh_W D ks L (mh_A L s.heap.size) s.heap h H locs → lv_has ls 7 [] → f_X12_fill_b136  h = some (r, h') → W p l e (mh_rm 2) s m args below meth c H locs 0 0 (MQ below (mh_Qi D ks L s.heap.size r h') args s 0 0 (mh_A L s.heap.size)) (F0 m 136 ls []) := by
  intro  h H locs ls wd hl hX
  have hx := cx.1.1
  have hb := cx.1.2.1
  unfold f_X12_fill_b136 at hX
  refine lv_iconst (v := (-1)) hx hb dX12_fill_136 (by decide) ?_
  exact mh_iret cx wd hr hX dX12_fill_137
set_option maxRecDepth 100000 in
set_option maxHeartbeats 4000000 in
theorem w_X12_fill_b27 {p : Program} {l : Launch} {e : Env} {s : State} {m : MethodId} {args : Array Value} {below : List Frame} {meth : Method} {c : Code} {D : va_G} {ks : Nat → ClassId} {L : List Nat} {r : Int32} {h' : mh_H} (cx : mh_C p m c cX12_fill 7 s args RX12 meth D ks (mh_A L s.heap.size)) (hr : meth.sig.returnType = (some .int)) :
    ∀ n : Nat, ∀ (o0 : Nat) (x1 : Int32) (x2 : Int32) (x3 : Int32) (x4 : Int32) (x5 : Int32) (h : mh_H) (H : Heap) (locs : List Loc) (ls : Array Slot), mh_W D ks L (mh_A L s.heap.size) s.heap h H locs → lv_has ls 7 [(0, .ref o0), (1, .int x1), (2, .int x2), (3, .int x3), (4, .int x4), (5, .int x5)] → f_X12_fill_b27 n o0 x1 x2 x3 x4 x5 h = some (r, h') → W p l e (mh_rm 2) s m args below meth c H locs 0 0 (MQ below (mh_Qi D ks L s.heap.size r h') args s 0 0 (mh_A L s.heap.size)) (F0 m 27 ls []) := by
  intro n
  induction n with
  | zero =>
    intro o0 x1 x2 x3 x4 x5 h H locs ls wd hl hX
    cases hX
  | succ n ih =>
    intro o0 x1 x2 x3 x4 x5 h H locs ls wd hl hX
    have hx := cx.1.1
    have hb := cx.1.2.1
    rw [f_X12_fill_b27] at hX
    refine lv_iload hx hb dX12_fill_27 (lv_at hl 5 rfl) ?_
    refine lv_aload_n hx hb dX12_fill_29 rfl (lv_at hl 0 rfl) ?_
    refine mh_getR cx wd fl_X12_9 dX12_fill_30 hX (fun a7 hX => ?_)
    refine lv_iload hx hb dX12_fill_33 (lv_at hl 4 rfl) ?_
    refine mh_iald cx wd dX12_fill_35 hX (fun v8 hX => ?_)
    refine lv_icmp_ge (tgt := 136) hx hb dX12_fill_36 rfl (fun hc => (fun hX => ?_) ((mh_if hX).1 hc)) (fun hc => (fun hX => ?_) ((mh_if hX).2 hc))
    · exact w_X12_fill_b136 cx hr  h _ _ ls wd (lv_sub hl [] rfl) hX
    · refine lv_aload_n hx hb dX12_fill_39 rfl (lv_at hl 0 rfl) ?_
      refine mh_getR cx wd fl_X12_9 dX12_fill_40 hX (fun a9 hX => ?_)
      refine lv_iload hx hb dX12_fill_43 (lv_at hl 4 rfl) ?_
      refine lv_iconst (v := 1) hx hb dX12_fill_45 (by decide) ?_
      refine lv_iadd hx hb dX12_fill_46 ?_
      refine lv_iload hx hb dX12_fill_47 (lv_at hl 5 rfl) ?_
      refine lv_iadd hx hb dX12_fill_49 ?_
      refine mh_iald cx wd dX12_fill_50 hX (fun v10 hX => ?_)
      refine lv_iload_n hx hb dX12_fill_51 rfl (lv_at hl 2 rfl) ?_
      refine lv_icmp_ne (tgt := 130) hx hb dX12_fill_52 rfl (fun hc => (fun hX => ?_) ((mh_if hX).2 hc)) (fun hc => (fun hX => ?_) ((mh_if hX).1 hc))
      · exact w_X12_fill_b130 (f_X12_fill_b27 n) cx hr ih _ _ _ _ _ _ h _ _ ls wd (lv_sub hl [0, 1, 2, 3, 4, 5] rfl) hX
      · refine lv_iload_n hx hb dX12_fill_55 rfl (lv_at hl 3 rfl) ?_
        refine lv_if_lt (tgt := 130) hx hb dX12_fill_56 rfl (fun hc => (fun hX => ?_) ((mh_if hX).1 hc)) (fun hc => (fun hX => ?_) ((mh_if hX).2 hc))
        · exact w_X12_fill_b130 (f_X12_fill_b27 n) cx hr ih _ _ _ _ _ _ h _ _ ls wd (lv_sub hl [0, 1, 2, 3, 4, 5] rfl) hX
        · refine lv_iload_n hx hb dX12_fill_59 rfl (lv_at hl 3 rfl) ?_
          refine lv_bipush (v := 20) hx hb dX12_fill_60 (by decide) ?_
          refine lv_icmp_gt (tgt := 130) hx hb dX12_fill_62 rfl (fun hc => (fun hX => ?_) ((mh_if hX).1 hc)) (fun hc => (fun hX => ?_) ((mh_if hX).2 hc))
          · exact w_X12_fill_b130 (f_X12_fill_b27 n) cx hr ih _ _ _ _ _ _ h _ _ ls wd (lv_sub hl [0, 1, 2, 3, 4, 5] rfl) hX
          · refine lv_aload_n hx hb dX12_fill_65 rfl (lv_at hl 0 rfl) ?_
            refine lv_iload_n hx hb dX12_fill_66 rfl (lv_at hl 1 rfl) ?_
            refine mh_callVI cx wd [.int x1] (rfl : vwCl[12]? = some (RX12, TX12, 38)) yw_X12_allOf vw_X12_263 rfl hl.1 rfl (Nat.le_of_ble_eq_true rfl) dX12_fill_67 ⟨Nat.le_of_ble_eq_true rfl, Nat.le_of_ble_eq_true rfl⟩ ⟨Nat.le_refl _, Nat.le_refl _⟩ (fun _ _ q => c_X12_allOf q) hX (fun v12 h11 H locs wd hX => ?_)
            refine lv_iload_n hx hb dX12_fill_70 rfl (lv_at hl 3 rfl) ?_
            refine lv_aload_n hx hb dX12_fill_71 rfl (lv_at hl 0 rfl) ?_
            refine mh_getR cx wd fl_X12_9 dX12_fill_72 hX (fun a13 hX => ?_)
            refine lv_iload hx hb dX12_fill_75 (lv_at hl 4 rfl) ?_
            refine lv_bipush (v := 13) hx hb dX12_fill_77 (by decide) ?_
            refine lv_iadd hx hb dX12_fill_79 ?_
            refine lv_iload hx hb dX12_fill_80 (lv_at hl 5 rfl) ?_
            refine lv_iadd hx hb dX12_fill_82 ?_
            refine mh_iald cx wd dX12_fill_83 hX (fun v14 hX => ?_)
            refine lv_isub hx hb dX12_fill_84 ?_
            refine lv_iload_n hx hb dX12_fill_85 rfl (lv_at hl 2 rfl) ?_
            refine lv_imul hx hb dX12_fill_86 ?_
            refine lv_iadd hx hb dX12_fill_87 ?_
            refine lv_sipush (v := 20000) hx hb dX12_fill_88 (by decide) ?_
            refine lv_icmp_gt (tgt := 130) hx hb dX12_fill_91 rfl (fun hc => (fun hX => ?_) ((mh_if hX).1 hc)) (fun hc => (fun hX => ?_) ((mh_if hX).2 hc))
            · exact w_X12_fill_b130 (f_X12_fill_b27 n) cx hr ih _ _ _ _ _ _ h11 _ _ ls wd (lv_sub hl [0, 1, 2, 3, 4, 5] rfl) hX
            · exact w_X12_fill_b94 cx hr _ _ _ _ h11 _ _ ls wd (lv_sub hl [0, 3, 4, 5] rfl) hX
set_option maxRecDepth 100000 in
set_option maxHeartbeats 4000000 in
theorem w_X12_fill_e {p : Program} {l : Launch} {e : Env} {s : State} {m : MethodId} {args : Array Value} {below : List Frame} {meth : Method} {c : Code} {D : va_G} {ks : Nat → ClassId} {L : List Nat} {r : Int32} {h' : mh_H} (cx : mh_C p m c cX12_fill 7 s args RX12 meth D ks (mh_A L s.heap.size)) (hr : meth.sig.returnType = (some .int)) :
    ∀ (o0 : Nat) (x1 : Int32) (x2 : Int32) (x3 : Int32) (h : mh_H) (H : Heap) (locs : List Loc) (ls : Array Slot), mh_W D ks L (mh_A L s.heap.size) s.heap h H locs → lv_has ls 7 [(0, .ref o0), (1, .int x1), (2, .int x2), (3, .int x3)] → f_X12_fill_e o0 x1 x2 x3 h = some (r, h') → W p l e (mh_rm 2) s m args below meth c H locs 0 0 (MQ below (mh_Qi D ks L s.heap.size r h') args s 0 0 (mh_A L s.heap.size)) (F0 m 0 ls []) := by
  intro o0 x1 x2 x3 h H locs ls wd hl hX
  have hx := cx.1.1
  have hb := cx.1.2.1
  unfold f_X12_fill_e at hX
  refine lv_aload_n hx hb dX12_fill_0 rfl (lv_at hl 0 rfl) ?_
  refine lv_iconst (v := 0) hx hb dX12_fill_1 (by decide) ?_
  refine mh_putI cx wd fp_X12_96 dX12_fill_2 hX (fun h15 H locs wd hX => ?_)
  refine lv_iload_n hx hb dX12_fill_5 rfl (lv_at hl 1 rfl) ?_
  refine mh_callSI cx wd [.int x1] yw_X12_isMint sw_X12_111 rfl hl.1 rfl (Nat.le_of_ble_eq_true rfl) dX12_fill_6 ⟨Nat.le_of_ble_eq_true rfl, Nat.le_of_ble_eq_true rfl⟩ ⟨Nat.le_refl _, Nat.le_refl _⟩ (fun _ _ q => c_X12_isMint q) hX (fun v17 h16 H locs wd hX => ?_)
  refine lv_if_ne (tgt := 18) hx hb dX12_fill_9 rfl (fun hc => (fun hX => ?_) ((mh_if hX).2 hc)) (fun hc => (fun hX => ?_) ((mh_if hX).1 hc))
  · refine lv_iload_n hx hb dX12_fill_18 rfl (lv_at hl 1 rfl) ?_
    refine mh_callSI cx wd [.int x1] yw_X12_purseAt sw_X12_260 rfl hl.1 rfl (Nat.le_of_ble_eq_true rfl) dX12_fill_19 ⟨Nat.le_of_ble_eq_true rfl, Nat.le_of_ble_eq_true rfl⟩ ⟨Nat.le_refl _, Nat.le_refl _⟩ (fun _ _ q => c_X12_purseAt q) hX (fun v19 h18 H locs wd hX => ?_)
    refine lv_istore (lv' := [(4, .int v19), (0, .ref o0), (1, .int x1), (2, .int x2), (3, .int x3)]) hx hb dX12_fill_22 hl (Nat.le_of_ble_eq_true rfl) rfl (fun ls hl => ?_)
    refine lv_iconst (v := 0) hx hb dX12_fill_24 (by decide) ?_
    refine mh_topi hX (fun v20 hX => ?_)
    refine lv_istore (lv' := [(5, .int v20), (4, .int v19), (0, .ref o0), (1, .int x1), (2, .int x2), (3, .int x3)]) hx hb dX12_fill_25 hl (Nat.le_of_ble_eq_true rfl) rfl (fun ls hl => ?_)
    exact w_X12_fill_b27 cx hr mh_fu _ _ _ _ _ _ h18 _ _ ls wd (lv_sub hl [2, 3, 4, 5, 1, 0] rfl) hX
  · refine lv_aload_n hx hb dX12_fill_12 rfl (lv_at hl 0 rfl) ?_
    refine lv_iconst (v := 1) hx hb dX12_fill_13 (by decide) ?_
    refine mh_callVI cx wd [.int (1 : Int32)] (rfl : vwCl[12]? = some (RX12, TX12, 38)) yw_X12_fail vw_X12_122 rfl hl.1 rfl (Nat.le_of_ble_eq_true rfl) dX12_fill_14 ⟨Nat.le_of_ble_eq_true rfl, Nat.le_of_ble_eq_true rfl⟩ ⟨Nat.le_refl _, Nat.le_refl _⟩ (fun _ _ q => c_X12_fail q) hX (fun v22 h21 H locs wd hX => ?_)
    exact mh_iret cx wd hr hX dX12_fill_17
set_option maxRecDepth 100000 in
theorem c_X12_fill {l : Launch} {L : List Nat} {h h' : mh_H} {r : Int32} {o0 : Nat} {x1 : Int32} {x2 : Int32} {x3 : Int32} (hX : f_X12_fill_e o0 x1 x2 x3 h = some (r, h')) : mh_MI l yX12_fill (Cond.code yX12_fill cX12_fill 7 (some .int) :: mh_TB) (mh_rm 2) [.ref o0, .int x1, .int x2, .int x3] L h r h' :=
  mh_of (mc := 0) (ms := 0) (Qc := fun D ks sz => mh_Qi D ks L sz r h') (plainFor_of_name (by decide)) (Nat.le_of_ble_eq_true rfl) (fun p e s m below meth c D ks ls hr cx wd hl => by
    have hl : lv_has ls 7 [(0, .ref o0), (1, .int x1), (2, .int x2), (3, .int x3)] := hl
    exact w_X12_fill_e cx hr o0 x1 x2 x3 h _ _ ls wd hl hX)
def f_X12_has_b51 (o0 : Nat) (h : mh_H) : Option (Int32 × mh_H) :=
  mh_b2 (mh_cal h o0 12 (f_X12_fail_e o0 (1 : Int32) h)) fun v2 h1 =>
  some (v2, h1)
def f_X12_has_b120 (t0 : Int32) (h : mh_H) : Option (Int32 × mh_H) :=
  some (t0, h)
def f_X12_has_b57 (o0 : Nat) (x1 : Int32) (x2 : Int32) (h : mh_H) : Option (Int32 × mh_H) :=
  mh_b2 (f_X12_purseAt_e x1 h) fun v4 h3 =>
  if x2 = (-1 : Int32) then (
  (mh_gR h3 o0 12 1).bind fun a11 =>
  (mh_aI h3 a11 0 v4).bind fun v12 =>
  f_X12_has_b120 v12 h3) else
  if x2 = (-2 : Int32) then (
  mh_b2 (mh_cal h3 o0 12 (f_X12_allOf_e o0 x1 h3)) fun v10 h9 =>
  f_X12_has_b120 v10 h9) else
  if 0 ≤ x2 then (
  (mh_gR h3 o0 12 1).bind fun a5 =>
  (mh_aI h3 a5 0 ((v4 + (13 : Int32)) + x2)).bind fun v6 =>
  f_X12_has_b120 v6 h3) else
  (mh_gR h3 o0 12 1).bind fun a7 =>
  (mh_aI h3 a7 0 (((v4 + (1 : Int32)) - (3 : Int32)) - x2)).bind fun v8 =>
  f_X12_has_b120 v8 h3
def f_X12_has_e (o0 : Nat) (x1 : Int32) (x2 : Int32) (h : mh_H) : Option (Int32 × mh_H) :=
  (mh_pI h o0 12 0 (0 : Int32)).bind fun h13 =>
  mh_b2 (f_X12_isMint_e x1 h13) fun v15 h14 =>
  if v15 = 0 then (
  f_X12_has_b51 o0 h14) else
  (mh_gR h14 o0 12 1).bind fun a16 =>
  mh_b2 (f_X12_purseAt_e x1 h14) fun v18 h17 =>
  (mh_aI h17 a16 0 v18).bind fun v19 =>
  if v19 ≤ x2 then (
  f_X12_has_b51 o0 h17) else
  if (-3 : Int32) < x2 then (
  f_X12_has_b57 o0 x1 x2 h17) else
  (mh_gR h17 o0 12 1).bind fun a20 =>
  mh_b2 (f_X12_purseAt_e x1 h17) fun v22 h21 =>
  (mh_aI h21 a20 0 v22).bind fun v23 =>
  if (lg_cmp ((-3 : Int64) - (x2).toInt64) ((v23).toInt64)) < 0 then (
  f_X12_has_b57 o0 x1 x2 h21) else
  f_X12_has_b51 o0 h21
set_option maxRecDepth 100000 in
set_option maxHeartbeats 4000000 in
theorem w_X12_has_b51 {p : Program} {l : Launch} {e : Env} {s : State} {m : MethodId} {args : Array Value} {below : List Frame} {meth : Method} {c : Code} {D : va_G} {ks : Nat → ClassId} {L : List Nat} {r : Int32} {h' : mh_H} (cx : mh_C p m c cX12_has 4 s args RX12 meth D ks (mh_A L s.heap.size)) (hr : meth.sig.returnType = (some .int)) :
    ∀ (o0 : Nat) (h : mh_H) (H : Heap) (locs : List Loc) (ls : Array Slot), mh_W D ks L (mh_A L s.heap.size) s.heap h H locs → lv_has ls 4 [(0, .ref o0)] → f_X12_has_b51 o0 h = some (r, h') → W p l e (mh_rm 2) s m args below meth c H locs 0 0 (MQ below (mh_Qi D ks L s.heap.size r h') args s 0 0 (mh_A L s.heap.size)) (F0 m 51 ls []) := by
  intro o0 h H locs ls wd hl hX
  have hx := cx.1.1
  have hb := cx.1.2.1
  unfold f_X12_has_b51 at hX
  refine lv_aload_n hx hb dX12_has_51 rfl (lv_at hl 0 rfl) ?_
  refine lv_iconst (v := 1) hx hb dX12_has_52 (by decide) ?_
  refine mh_callVI cx wd [.int (1 : Int32)] (rfl : vwCl[12]? = some (RX12, TX12, 38)) yw_X12_fail vw_X12_122 rfl hl.1 rfl (Nat.le_of_ble_eq_true rfl) dX12_has_53 ⟨Nat.le_of_ble_eq_true rfl, Nat.le_of_ble_eq_true rfl⟩ ⟨Nat.le_refl _, Nat.le_refl _⟩ (fun _ _ q => c_X12_fail q) hX (fun v2 h1 H locs wd hX => ?_)
  exact mh_iret cx wd hr hX dX12_has_56
set_option maxRecDepth 100000 in
set_option maxHeartbeats 4000000 in
theorem w_X12_has_b120 {p : Program} {l : Launch} {e : Env} {s : State} {m : MethodId} {args : Array Value} {below : List Frame} {meth : Method} {c : Code} {D : va_G} {ks : Nat → ClassId} {L : List Nat} {r : Int32} {h' : mh_H} (cx : mh_C p m c cX12_has 4 s args RX12 meth D ks (mh_A L s.heap.size)) (hr : meth.sig.returnType = (some .int)) :
    ∀ (t0 : Int32) (h : mh_H) (H : Heap) (locs : List Loc) (ls : Array Slot), mh_W D ks L (mh_A L s.heap.size) s.heap h H locs → lv_has ls 4 [] → f_X12_has_b120 t0 h = some (r, h') → W p l e (mh_rm 2) s m args below meth c H locs 0 0 (MQ below (mh_Qi D ks L s.heap.size r h') args s 0 0 (mh_A L s.heap.size)) (F0 m 120 ls [.int t0]) := by
  intro t0 h H locs ls wd hl hX
  have hx := cx.1.1
  have hb := cx.1.2.1
  unfold f_X12_has_b120 at hX
  exact mh_iret cx wd hr hX dX12_has_120
set_option maxRecDepth 100000 in
set_option maxHeartbeats 4000000 in
theorem w_X12_has_b57 {p : Program} {l : Launch} {e : Env} {s : State} {m : MethodId} {args : Array Value} {below : List Frame} {meth : Method} {c : Code} {D : va_G} {ks : Nat → ClassId} {L : List Nat} {r : Int32} {h' : mh_H} (cx : mh_C p m c cX12_has 4 s args RX12 meth D ks (mh_A L s.heap.size)) (hr : meth.sig.returnType = (some .int)) :
    ∀ (o0 : Nat) (x1 : Int32) (x2 : Int32) (h : mh_H) (H : Heap) (locs : List Loc) (ls : Array Slot), mh_W D ks L (mh_A L s.heap.size) s.heap h H locs → lv_has ls 4 [(0, .ref o0), (1, .int x1), (2, .int x2)] → f_X12_has_b57 o0 x1 x2 h = some (r, h') → W p l e (mh_rm 2) s m args below meth c H locs 0 0 (MQ below (mh_Qi D ks L s.heap.size r h') args s 0 0 (mh_A L s.heap.size)) (F0 m 57 ls []) := by
  intro o0 x1 x2 h H locs ls wd hl hX
  have hx := cx.1.1
  have hb := cx.1.2.1
  unfold f_X12_has_b57 at hX
  refine lv_iload_n hx hb dX12_has_57 rfl (lv_at hl 1 rfl) ?_
  refine mh_callSI cx wd [.int x1] yw_X12_purseAt sw_X12_260 rfl hl.1 rfl (Nat.le_of_ble_eq_true rfl) dX12_has_58 ⟨Nat.le_of_ble_eq_true rfl, Nat.le_of_ble_eq_true rfl⟩ ⟨Nat.le_refl _, Nat.le_refl _⟩ (fun _ _ q => c_X12_purseAt q) hX (fun v4 h3 H locs wd hX => ?_)
  refine lv_istore_n (lv' := [(3, .int v4), (0, .ref o0), (1, .int x1), (2, .int x2)]) hx hb dX12_has_61 rfl hl (Nat.le_of_ble_eq_true rfl) rfl (fun ls hl => ?_)
  refine lv_iload_n hx hb dX12_has_62 rfl (lv_at hl 3 rfl) ?_
  refine lv_iconst (v := (-1)) hx hb dX12_has_63 (by decide) ?_
  refine lv_icmp_ne (tgt := 76) hx hb dX12_has_64 rfl (fun hc => (fun hX => ?_) ((mh_if hX).2 hc)) (fun hc => (fun hX => ?_) ((mh_if hX).1 hc))
  · refine lv_iload_n hx hb dX12_has_76 rfl (lv_at hl 3 rfl) ?_
    refine lv_bipush (v := (-2)) hx hb dX12_has_77 (by decide) ?_
    refine lv_icmp_ne (tgt := 90) hx hb dX12_has_79 rfl (fun hc => (fun hX => ?_) ((mh_if hX).2 hc)) (fun hc => (fun hX => ?_) ((mh_if hX).1 hc))
    · refine lv_iload_n hx hb dX12_has_90 rfl (lv_at hl 3 rfl) ?_
      refine lv_if_ge (tgt := 109) hx hb dX12_has_91 rfl (fun hc => (fun hX => ?_) ((mh_if hX).1 hc)) (fun hc => (fun hX => ?_) ((mh_if hX).2 hc))
      · refine lv_aload_n hx hb dX12_has_109 rfl (lv_at hl 1 rfl) ?_
        refine mh_getR cx wd fl_X12_9 dX12_has_110 hX (fun a5 hX => ?_)
        refine lv_iload_n hx hb dX12_has_113 rfl (lv_at hl 0 rfl) ?_
        refine lv_bipush (v := 13) hx hb dX12_has_114 (by decide) ?_
        refine lv_iadd hx hb dX12_has_116 ?_
        refine lv_iload_n hx hb dX12_has_117 rfl (lv_at hl 3 rfl) ?_
        refine lv_iadd hx hb dX12_has_118 ?_
        refine mh_iald cx wd dX12_has_119 hX (fun v6 hX => ?_)
        exact w_X12_has_b120 cx hr _ h3 _ _ ls wd (lv_sub hl [] rfl) hX
      · refine lv_aload_n hx hb dX12_has_94 rfl (lv_at hl 1 rfl) ?_
        refine mh_getR cx wd fl_X12_9 dX12_has_95 hX (fun a7 hX => ?_)
        refine lv_iload_n hx hb dX12_has_98 rfl (lv_at hl 0 rfl) ?_
        refine lv_iconst (v := 1) hx hb dX12_has_99 (by decide) ?_
        refine lv_iadd hx hb dX12_has_100 ?_
        refine lv_iconst (v := 3) hx hb dX12_has_101 (by decide) ?_
        refine lv_isub hx hb dX12_has_102 ?_
        refine lv_iload_n hx hb dX12_has_103 rfl (lv_at hl 3 rfl) ?_
        refine lv_isub hx hb dX12_has_104 ?_
        refine mh_iald cx wd dX12_has_105 hX (fun v8 hX => ?_)
        refine lv_goto (tgt := 120) hx hb dX12_has_106 rfl ?_
        exact w_X12_has_b120 cx hr _ h3 _ _ ls wd (lv_sub hl [] rfl) hX
    · refine lv_aload_n hx hb dX12_has_82 rfl (lv_at hl 1 rfl) ?_
      refine lv_iload_n hx hb dX12_has_83 rfl (lv_at hl 2 rfl) ?_
      refine mh_callVI cx wd [.int x1] (rfl : vwCl[12]? = some (RX12, TX12, 38)) yw_X12_allOf vw_X12_263 rfl hl.1 rfl (Nat.le_of_ble_eq_true rfl) dX12_has_84 ⟨Nat.le_of_ble_eq_true rfl, Nat.le_of_ble_eq_true rfl⟩ ⟨Nat.le_refl _, Nat.le_refl _⟩ (fun _ _ q => c_X12_allOf q) hX (fun v10 h9 H locs wd hX => ?_)
      refine lv_goto (tgt := 120) hx hb dX12_has_87 rfl ?_
      exact w_X12_has_b120 cx hr _ h9 _ _ ls wd (lv_sub hl [] rfl) hX
  · refine lv_aload_n hx hb dX12_has_67 rfl (lv_at hl 1 rfl) ?_
    refine mh_getR cx wd fl_X12_9 dX12_has_68 hX (fun a11 hX => ?_)
    refine lv_iload_n hx hb dX12_has_71 rfl (lv_at hl 0 rfl) ?_
    refine mh_iald cx wd dX12_has_72 hX (fun v12 hX => ?_)
    refine lv_goto (tgt := 120) hx hb dX12_has_73 rfl ?_
    exact w_X12_has_b120 cx hr _ h3 _ _ ls wd (lv_sub hl [] rfl) hX
set_option maxRecDepth 100000 in
set_option maxHeartbeats 4000000 in
theorem w_X12_has_e {p : Program} {l : Launch} {e : Env} {s : State} {m : MethodId} {args : Array Value} {below : List Frame} {meth : Method} {c : Code} {D : va_G} {ks : Nat → ClassId} {L : List Nat} {r : Int32} {h' : mh_H} (cx : mh_C p m c cX12_has 4 s args RX12 meth D ks (mh_A L s.heap.size)) (hr : meth.sig.returnType = (some .int)) :
    ∀ (o0 : Nat) (x1 : Int32) (x2 : Int32) (h : mh_H) (H : Heap) (locs : List Loc) (ls : Array Slot), mh_W D ks L (mh_A L s.heap.size) s.heap h H locs → lv_has ls 4 [(0, .ref o0), (1, .int x1), (2, .int x2)] → f_X12_has_e o0 x1 x2 h = some (r, h') → W p l e (mh_rm 2) s m args below meth c H locs 0 0 (MQ below (mh_Qi D ks L s.heap.size r h') args s 0 0 (mh_A L s.heap.size)) (F0 m 0 ls []) := by
  intro o0 x1 x2 h H locs ls wd hl hX
  have hx := cx.1.1
  have hb := cx.1.2.1
  unfold f_X12_has_e at hX
  refine lv_aload_n hx hb dX12_has_0 rfl (lv_at hl 0 rfl) ?_
  refine lv_iconst (v := 0) hx hb dX12_has_1 (by decide) ?_
  refine mh_putI cx wd fp_X12_96 dX12_has_2 hX (fun h13 H locs wd hX => ?_)
  refine lv_iload_n hx hb dX12_has_5 rfl (lv_at hl 1 rfl) ?_
  refine mh_callSI cx wd [.int x1] yw_X12_isMint sw_X12_111 rfl hl.1 rfl (Nat.le_of_ble_eq_true rfl) dX12_has_6 ⟨Nat.le_of_ble_eq_true rfl, Nat.le_of_ble_eq_true rfl⟩ ⟨Nat.le_refl _, Nat.le_refl _⟩ (fun _ _ q => c_X12_isMint q) hX (fun v15 h14 H locs wd hX => ?_)
  refine lv_if_eq (tgt := 51) hx hb dX12_has_9 rfl (fun hc => (fun hX => ?_) ((mh_if hX).1 hc)) (fun hc => (fun hX => ?_) ((mh_if hX).2 hc))
  · exact w_X12_has_b51 cx hr _ h14 _ _ ls wd (lv_sub hl [0] rfl) hX
  · refine lv_iload_n hx hb dX12_has_12 rfl (lv_at hl 2 rfl) ?_
    refine lv_aload_n hx hb dX12_has_13 rfl (lv_at hl 0 rfl) ?_
    refine mh_getR cx wd fl_X12_9 dX12_has_14 hX (fun a16 hX => ?_)
    refine lv_iload_n hx hb dX12_has_17 rfl (lv_at hl 1 rfl) ?_
    refine mh_callSI cx wd [.int x1] yw_X12_purseAt sw_X12_260 rfl hl.1 rfl (Nat.le_of_ble_eq_true rfl) dX12_has_18 ⟨Nat.le_of_ble_eq_true rfl, Nat.le_of_ble_eq_true rfl⟩ ⟨Nat.le_refl _, Nat.le_refl _⟩ (fun _ _ q => c_X12_purseAt q) hX (fun v18 h17 H locs wd hX => ?_)
    refine mh_iald cx wd dX12_has_21 hX (fun v19 hX => ?_)
    refine lv_icmp_ge (tgt := 51) hx hb dX12_has_22 rfl (fun hc => (fun hX => ?_) ((mh_if hX).1 hc)) (fun hc => (fun hX => ?_) ((mh_if hX).2 hc))
    · exact w_X12_has_b51 cx hr _ h17 _ _ ls wd (lv_sub hl [0] rfl) hX
    · refine lv_iload_n hx hb dX12_has_25 rfl (lv_at hl 2 rfl) ?_
      refine lv_bipush (v := (-3)) hx hb dX12_has_26 (by decide) ?_
      refine lv_icmp_gt (tgt := 57) hx hb dX12_has_28 rfl (fun hc => (fun hX => ?_) ((mh_if hX).1 hc)) (fun hc => (fun hX => ?_) ((mh_if hX).2 hc))
      · exact w_X12_has_b57 cx hr _ _ _ h17 _ _ ls wd (lv_sub hl [0, 1, 2] rfl) hX
      · refine mh_ldc2 cx kl_X12_266 dX12_has_31 ?_
        refine lv_iload_n hx hb dX12_has_34 rfl (lv_at hl 2 rfl) ?_
        refine lv_i2l hx hb dX12_has_35 rfl ?_
        refine lv_lsub hx hb dX12_has_36 ?_
        refine lv_aload_n hx hb dX12_has_37 rfl (lv_at hl 0 rfl) ?_
        refine mh_getR cx wd fl_X12_9 dX12_has_38 hX (fun a20 hX => ?_)
        refine lv_iload_n hx hb dX12_has_41 rfl (lv_at hl 1 rfl) ?_
        refine mh_callSI cx wd [.int x1] yw_X12_purseAt sw_X12_260 rfl hl.1 rfl (Nat.le_of_ble_eq_true rfl) dX12_has_42 ⟨Nat.le_of_ble_eq_true rfl, Nat.le_of_ble_eq_true rfl⟩ ⟨Nat.le_refl _, Nat.le_refl _⟩ (fun _ _ q => c_X12_purseAt q) hX (fun v22 h21 H locs wd hX => ?_)
        refine mh_iald cx wd dX12_has_45 hX (fun v23 hX => ?_)
        refine lv_i2l hx hb dX12_has_46 rfl ?_
        refine W.lcmp hx hb dX12_has_47 ?_
        refine lv_if_lt (tgt := 57) hx hb dX12_has_48 rfl (fun hc => (fun hX => ?_) ((mh_if hX).1 hc)) (fun hc => (fun hX => ?_) ((mh_if hX).2 hc))
        · exact w_X12_has_b57 cx hr _ _ _ h21 _ _ ls wd (lv_sub hl [0, 1, 2] rfl) hX
        · exact w_X12_has_b51 cx hr _ h21 _ _ ls wd (lv_sub hl [0] rfl) hX
set_option maxRecDepth 100000 in
theorem c_X12_has {l : Launch} {L : List Nat} {h h' : mh_H} {r : Int32} {o0 : Nat} {x1 : Int32} {x2 : Int32} (hX : f_X12_has_e o0 x1 x2 h = some (r, h')) : mh_MI l yX12_has (Cond.code yX12_has cX12_has 4 (some .int) :: mh_TB) (mh_rm 2) [.ref o0, .int x1, .int x2] L h r h' :=
  mh_of (mc := 0) (ms := 0) (Qc := fun D ks sz => mh_Qi D ks L sz r h') (plainFor_of_name (by decide)) (Nat.le_of_ble_eq_true rfl) (fun p e s m below meth c D ks ls hr cx wd hl => by
    have hl : lv_has ls 4 [(0, .ref o0), (1, .int x1), (2, .int x2)] := hl
    exact w_X12_has_e cx hr o0 x1 x2 h _ _ ls wd hl hX)
def f_X12_fillTable_b32 (k8 : Nat → Nat → Int32 → Int32 → mh_H → Option mh_H) (o0 : Nat) (o2 : Nat) (x3 : Int32) (x4 : Int32) (t0 : Nat) (t1 : Int32) (t2 : Int32) (h : mh_H) : Option mh_H :=
  (mh_sI h t0 t1 t2).bind fun h1 =>
  mh_nm (x4 + Int32.ofInt (1)) fun v2 =>
  k8 o0 o2 x3 v2 h1
def f_X12_fillTable_b188 (k120 : Nat → Nat → Int32 → Int32 → Int32 → Int32 → Int32 → Int32 → mh_H → Option mh_H) (o0 : Nat) (o2 : Nat) (x3 : Int32) (x4 : Int32) (x5 : Int32) (x6 : Int32) (x7 : Int32) (x8 : Int32) (h : mh_H) : Option mh_H :=
  mh_nm (x8 + Int32.ofInt (1)) fun v3 =>
  k120 o0 o2 x3 x4 x5 x6 x7 v3 h
def f_X12_fillTable_b130 (k120 : Nat → Nat → Int32 → Int32 → Int32 → Int32 → Int32 → Int32 → mh_H → Option mh_H) : Nat → Nat → Nat → Int32 → Int32 → Int32 → Int32 → Int32 → Int32 → Int32 → mh_H → Option mh_H
  | 0, _, _, _, _, _, _, _, _, _, _ => none
  | n + 1, o0, o2, x3, x4, x5, x6, x7, x8, x9, h =>
    if x7 < x9 then (
    f_X12_fillTable_b188 k120 o0 o2 x3 x4 x5 x6 x7 x8 h) else
    if x8 < (x9 * x6) then (
    f_X12_fillTable_b188 k120 o0 o2 x3 x4 x5 x6 x7 x8 h) else
    (mh_aR h o2 5 x5).bind fun a4 =>
    (mh_aR h o2 5 x5).bind fun a5 =>
    (mh_aI h a5 0 x8).bind fun v6 =>
    (mh_aR h o2 5 (x5 - (1 : Int32))).bind fun a7 =>
    (mh_aI h a7 0 (x8 - (x9 * x6))).bind fun v8 =>
    (mh_sI h a4 x8 (if (v8 + x9) < v6 then (v8 + x9) else v6)).bind fun h9 =>
    mh_nm (x9 + Int32.ofInt (1)) fun v10 =>
    f_X12_fillTable_b130 k120 n o0 o2 x3 x4 x5 x6 x7 x8 v10 h9
def f_X12_fillTable_b194 (k45 : Nat → Nat → Int32 → Int32 → Int32 → mh_H → Option mh_H) (o0 : Nat) (o2 : Nat) (x3 : Int32) (x4 : Int32) (x5 : Int32) (h : mh_H) : Option mh_H :=
  mh_nm (x5 + Int32.ofInt (1)) fun v11 =>
  k45 o0 o2 x3 x4 v11 h
def f_X12_fillTable_b120 (k45 : Nat → Nat → Int32 → Int32 → Int32 → mh_H → Option mh_H) : Nat → Nat → Nat → Int32 → Int32 → Int32 → Int32 → Int32 → Int32 → mh_H → Option mh_H
  | 0, _, _, _, _, _, _, _, _, _ => none
  | n + 1, o0, o2, x3, x4, x5, x6, x7, x8, h =>
    if x4 < x8 then (
    f_X12_fillTable_b194 k45 o0 o2 x3 x4 x5 h) else
    mh_nm (0 : Int32) fun v12 =>
    f_X12_fillTable_b130 (f_X12_fillTable_b120 k45 n) mh_fu o0 o2 x3 x4 x5 x6 x7 x8 v12 h
def f_X12_fillTable_b117 (k45 : Nat → Nat → Int32 → Int32 → Int32 → mh_H → Option mh_H) (o0 : Nat) (o2 : Nat) (x3 : Int32) (x4 : Int32) (x5 : Int32) (x6 : Int32) (x7 : Int32) (h : mh_H) : Option mh_H :=
  mh_nm (0 : Int32) fun v13 =>
  f_X12_fillTable_b120 k45 mh_fu o0 o2 x3 x4 x5 x6 x7 v13 h
def f_X12_fillTable_b94 (k45 : Nat → Nat → Int32 → Int32 → Int32 → mh_H → Option mh_H) : Nat → Nat → Nat → Int32 → Int32 → Int32 → Int32 → Int32 → Int32 → mh_H → Option mh_H
  | 0, _, _, _, _, _, _, _, _, _ => none
  | n + 1, o0, o2, x3, x4, x5, x6, x7, x8, h =>
    if (20001 : Int32) ≤ x8 then (
    f_X12_fillTable_b117 k45 o0 o2 x3 x4 x5 x6 x7 h) else
    (mh_aR h o2 5 x5).bind fun a14 =>
    (mh_sI h a14 x8 (536870912 : Int32)).bind fun h15 =>
    mh_nm (x8 + Int32.ofInt (1)) fun v16 =>
    f_X12_fillTable_b94 k45 n o0 o2 x3 x4 x5 x6 x7 v16 h15
def f_X12_fillTable_b200 (h : mh_H) : Option mh_H :=
  some h
def f_X12_fillTable_b45 : Nat → Nat → Nat → Int32 → Int32 → Int32 → mh_H → Option mh_H
  | 0, _, _, _, _, _, _ => none
  | n + 1, o0, o2, x3, x4, x5, h =>
    (mh_gR h o0 12 1).bind fun a17 =>
    (mh_aI h a17 0 x3).bind fun v18 =>
    if v18 < x5 then (
    f_X12_fillTable_b200 h) else
    (mh_gR h o0 12 1).bind fun a19 =>
    (mh_aI h a19 0 (x3 + x5)).bind fun v20 =>
    (mh_gR h o0 12 1).bind fun a21 =>
    (mh_aI h a21 0 ((x3 + (12 : Int32)) + x5)).bind fun v22 =>
    mh_nm (x4 + (v20 * v22)) fun v23 =>
    mh_nm (0 : Int32) fun v24 =>
    f_X12_fillTable_b94 (f_X12_fillTable_b45 n) mh_fu o0 o2 x3 v23 x5 v20 v22 v24 h
def f_X12_fillTable_b39 (o0 : Nat) (o2 : Nat) (x3 : Int32) (h : mh_H) : Option mh_H :=
  mh_nm (0 : Int32) fun v25 =>
  mh_nm (1 : Int32) fun v26 =>
  f_X12_fillTable_b45 mh_fu o0 o2 x3 v25 v26 h
def f_X12_fillTable_b8 : Nat → Nat → Nat → Int32 → Int32 → mh_H → Option mh_H
  | 0, _, _, _, _, _ => none
  | n + 1, o0, o2, x3, x4, h =>
    if (20001 : Int32) ≤ x4 then (
    f_X12_fillTable_b39 o0 o2 x3 h) else
    (mh_aR h o2 5 (0 : Int32)).bind fun a27 =>
    if x4 = 0 then (
    f_X12_fillTable_b32 (f_X12_fillTable_b8 n) o0 o2 x3 x4 a27 x4 (0 : Int32) h) else
    f_X12_fillTable_b32 (f_X12_fillTable_b8 n) o0 o2 x3 x4 a27 x4 (536870912 : Int32) h
def f_X12_fillTable_e (o0 : Nat) (x1 : Int32) (o2 : Nat) (h : mh_H) : Option mh_H :=
  mh_b2 (f_X12_purseAt_e x1 h) fun v29 h28 =>
  mh_nm (0 : Int32) fun v30 =>
  f_X12_fillTable_b8 mh_fu o0 o2 v29 v30 h28
set_option maxRecDepth 100000 in
set_option maxHeartbeats 4000000 in
theorem w_X12_fillTable_b32 {p : Program} {l : Launch} {e : Env} {s : State} {m : MethodId} {args : Array Value} {below : List Frame} {meth : Method} {c : Code} {D : va_G} {ks : Nat → ClassId} {L : List Nat} {h' : mh_H} (k8 : Nat → Nat → Int32 → Int32 → mh_H → Option mh_H) (cx : mh_C p m c cX12_fillTable 10 s args RX12 meth D ks (mh_A L s.heap.size)) (hr : meth.sig.returnType = none)
    (hk8 : ∀ (o0 : Nat) (o2 : Nat) (x3 : Int32) (x4 : Int32) (h : mh_H) (H : Heap) (locs : List Loc) (ls : Array Slot), mh_W D ks L (mh_A L s.heap.size) s.heap h H locs → lv_has ls 10 [(0, .ref o0), (2, .ref o2), (3, .int x3), (4, .int x4)] → k8 o0 o2 x3 x4 h = some h' → W p l e (mh_rm 1) s m args below meth c H locs 0 0 (MQ below (mh_Qv D ks L s.heap.size h') args s 0 0 (mh_A L s.heap.size)) (F0 m 8 ls [])) :
    ∀ (o0 : Nat) (o2 : Nat) (x3 : Int32) (x4 : Int32) (t0 : Nat) (t1 : Int32) (t2 : Int32) (h : mh_H) (H : Heap) (locs : List Loc) (ls : Array Slot), mh_W D ks L (mh_A L s.heap.size) s.heap h H locs → lv_has ls 10 [(0, .ref o0), (2, .ref o2), (3, .int x3), (4, .int x4)] → f_X12_fillTable_b32 k8 o0 o2 x3 x4 t0 t1 t2 h = some h' → W p l e (mh_rm 1) s m args below meth c H locs 0 0 (MQ below (mh_Qv D ks L s.heap.size h') args s 0 0 (mh_A L s.heap.size)) (F0 m 32 ls [.int t2, .int t1, .ref t0]) := by
  intro o0 o2 x3 x4 t0 t1 t2 h H locs ls wd hl hX
  have hx := cx.1.1
  have hb := cx.1.2.1
  unfold f_X12_fillTable_b32 at hX
  refine mh_iast cx wd dX12_fillTable_32 hX (fun h1 H locs wd hX => ?_)
  obtain ⟨v2, ev2, hX⟩ := mh_nmx hX
  refine lv_iinc (k := 3) (v := v2) (lv' := [(4, .int v2), (0, .ref o0), (2, .ref o2), (3, .int x3)]) hx hb dX12_fillTable_33 hl rfl ev2 (Nat.le_of_ble_eq_true rfl) rfl (fun ls hl => ?_)
  refine lv_goto (tgt := 8) hx hb dX12_fillTable_36 rfl ?_
  exact hk8 _ _ _ _ h1 _ _ ls wd (lv_sub hl [1, 2, 3, 0] rfl) hX
set_option maxRecDepth 100000 in
set_option maxHeartbeats 4000000 in
theorem w_X12_fillTable_b188 {p : Program} {l : Launch} {e : Env} {s : State} {m : MethodId} {args : Array Value} {below : List Frame} {meth : Method} {c : Code} {D : va_G} {ks : Nat → ClassId} {L : List Nat} {h' : mh_H} (k120 : Nat → Nat → Int32 → Int32 → Int32 → Int32 → Int32 → Int32 → mh_H → Option mh_H) (cx : mh_C p m c cX12_fillTable 10 s args RX12 meth D ks (mh_A L s.heap.size)) (hr : meth.sig.returnType = none)
    (hk120 : ∀ (o0 : Nat) (o2 : Nat) (x3 : Int32) (x4 : Int32) (x5 : Int32) (x6 : Int32) (x7 : Int32) (x8 : Int32) (h : mh_H) (H : Heap) (locs : List Loc) (ls : Array Slot), mh_W D ks L (mh_A L s.heap.size) s.heap h H locs → lv_has ls 10 [(0, .ref o0), (2, .ref o2), (3, .int x3), (4, .int x4), (5, .int x5), (6, .int x6), (7, .int x7), (8, .int x8)] → k120 o0 o2 x3 x4 x5 x6 x7 x8 h = some h' → W p l e (mh_rm 1) s m args below meth c H locs 0 0 (MQ below (mh_Qv D ks L s.heap.size h') args s 0 0 (mh_A L s.heap.size)) (F0 m 120 ls [])) :
    ∀ (o0 : Nat) (o2 : Nat) (x3 : Int32) (x4 : Int32) (x5 : Int32) (x6 : Int32) (x7 : Int32) (x8 : Int32) (h : mh_H) (H : Heap) (locs : List Loc) (ls : Array Slot), mh_W D ks L (mh_A L s.heap.size) s.heap h H locs → lv_has ls 10 [(0, .ref o0), (2, .ref o2), (3, .int x3), (4, .int x4), (5, .int x5), (6, .int x6), (7, .int x7), (8, .int x8)] → f_X12_fillTable_b188 k120 o0 o2 x3 x4 x5 x6 x7 x8 h = some h' → W p l e (mh_rm 1) s m args below meth c H locs 0 0 (MQ below (mh_Qv D ks L s.heap.size h') args s 0 0 (mh_A L s.heap.size)) (F0 m 188 ls []) := by
  intro o0 o2 x3 x4 x5 x6 x7 x8 h H locs ls wd hl hX
  have hx := cx.1.1
  have hb := cx.1.2.1
  unfold f_X12_fillTable_b188 at hX
  obtain ⟨v3, ev3, hX⟩ := mh_nmx hX
  refine lv_iinc (k := 7) (v := v3) (lv' := [(8, .int v3), (0, .ref o0), (2, .ref o2), (3, .int x3), (4, .int x4), (5, .int x5), (6, .int x6), (7, .int x7)]) hx hb dX12_fillTable_188 hl rfl ev3 (Nat.le_of_ble_eq_true rfl) rfl (fun ls hl => ?_)
  refine lv_goto (tgt := 120) hx hb dX12_fillTable_191 rfl ?_
  exact hk120 _ _ _ _ _ _ _ _ h _ _ ls wd (lv_sub hl [1, 2, 3, 4, 5, 6, 7, 0] rfl) hX
set_option maxRecDepth 100000 in
set_option maxHeartbeats 4000000 in
theorem w_X12_fillTable_b130 {p : Program} {l : Launch} {e : Env} {s : State} {m : MethodId} {args : Array Value} {below : List Frame} {meth : Method} {c : Code} {D : va_G} {ks : Nat → ClassId} {L : List Nat} {h' : mh_H} (k120 : Nat → Nat → Int32 → Int32 → Int32 → Int32 → Int32 → Int32 → mh_H → Option mh_H) (cx : mh_C p m c cX12_fillTable 10 s args RX12 meth D ks (mh_A L s.heap.size)) (hr : meth.sig.returnType = none)
    (hk120 : ∀ (o0 : Nat) (o2 : Nat) (x3 : Int32) (x4 : Int32) (x5 : Int32) (x6 : Int32) (x7 : Int32) (x8 : Int32) (h : mh_H) (H : Heap) (locs : List Loc) (ls : Array Slot), mh_W D ks L (mh_A L s.heap.size) s.heap h H locs → lv_has ls 10 [(0, .ref o0), (2, .ref o2), (3, .int x3), (4, .int x4), (5, .int x5), (6, .int x6), (7, .int x7), (8, .int x8)] → k120 o0 o2 x3 x4 x5 x6 x7 x8 h = some h' → W p l e (mh_rm 1) s m args below meth c H locs 0 0 (MQ below (mh_Qv D ks L s.heap.size h') args s 0 0 (mh_A L s.heap.size)) (F0 m 120 ls [])) :
    ∀ n : Nat, ∀ (o0 : Nat) (o2 : Nat) (x3 : Int32) (x4 : Int32) (x5 : Int32) (x6 : Int32) (x7 : Int32) (x8 : Int32) (x9 : Int32) (h : mh_H) (H : Heap) (locs : List Loc) (ls : Array Slot), mh_W D ks L (mh_A L s.heap.size) s.heap h H locs → lv_has ls 10 [(0, .ref o0), (2, .ref o2), (3, .int x3), (4, .int x4), (5, .int x5), (6, .int x6), (7, .int x7), (8, .int x8), (9, .int x9)] → f_X12_fillTable_b130 k120 n o0 o2 x3 x4 x5 x6 x7 x8 x9 h = some h' → W p l e (mh_rm 1) s m args below meth c H locs 0 0 (MQ below (mh_Qv D ks L s.heap.size h') args s 0 0 (mh_A L s.heap.size)) (F0 m 130 ls []) := by
  intro n
  induction n with
  | zero =>
    intro o0 o2 x3 x4 x5 x6 x7 x8 x9 h H locs ls wd hl hX
    cases hX
  | succ n ih =>
    intro o0 o2 x3 x4 x5 x6 x7 x8 x9 h H locs ls wd hl hX
    have hx := cx.1.1
    have hb := cx.1.2.1
    rw [f_X12_fillTable_b130] at hX
    refine lv_iload hx hb dX12_fillTable_130 (lv_at hl 8 rfl) ?_
    refine lv_iload hx hb dX12_fillTable_132 (lv_at hl 6 rfl) ?_
    refine lv_icmp_gt (tgt := 188) hx hb dX12_fillTable_134 rfl (fun hc => (fun hX => ?_) ((mh_if hX).1 hc)) (fun hc => (fun hX => ?_) ((mh_if hX).2 hc))
    · exact w_X12_fillTable_b188 k120 cx hr hk120 _ _ _ _ _ _ _ _ h _ _ ls wd (lv_sub hl [0, 1, 2, 3, 4, 5, 6, 7] rfl) hX
    · refine lv_iload hx hb dX12_fillTable_137 (lv_at hl 8 rfl) ?_
      refine lv_iload hx hb dX12_fillTable_139 (lv_at hl 5 rfl) ?_
      refine lv_imul hx hb dX12_fillTable_141 ?_
      refine lv_iload hx hb dX12_fillTable_142 (lv_at hl 7 rfl) ?_
      refine lv_icmp_gt (tgt := 188) hx hb dX12_fillTable_144 rfl (fun hc => (fun hX => ?_) ((mh_if hX).1 hc)) (fun hc => (fun hX => ?_) ((mh_if hX).2 hc))
      · exact w_X12_fillTable_b188 k120 cx hr hk120 _ _ _ _ _ _ _ _ h _ _ ls wd (lv_sub hl [0, 1, 2, 3, 4, 5, 6, 7] rfl) hX
      · refine lv_aload_n hx hb dX12_fillTable_147 rfl (lv_at hl 1 rfl) ?_
        refine lv_iload hx hb dX12_fillTable_148 (lv_at hl 4 rfl) ?_
        refine mh_aald cx wd 5 rfl rfl dX12_fillTable_150 hX (fun a4 hX => ?_)
        refine lv_iload hx hb dX12_fillTable_151 (lv_at hl 7 rfl) ?_
        refine lv_aload_n hx hb dX12_fillTable_153 rfl (lv_at hl 1 rfl) ?_
        refine lv_iload hx hb dX12_fillTable_154 (lv_at hl 4 rfl) ?_
        refine mh_aald cx wd 5 rfl rfl dX12_fillTable_156 hX (fun a5 hX => ?_)
        refine lv_iload hx hb dX12_fillTable_157 (lv_at hl 7 rfl) ?_
        refine mh_iald cx wd dX12_fillTable_159 hX (fun v6 hX => ?_)
        refine lv_aload_n hx hb dX12_fillTable_160 rfl (lv_at hl 1 rfl) ?_
        refine lv_iload hx hb dX12_fillTable_161 (lv_at hl 4 rfl) ?_
        refine lv_iconst (v := 1) hx hb dX12_fillTable_163 (by decide) ?_
        refine lv_isub hx hb dX12_fillTable_164 ?_
        refine mh_aald cx wd 5 rfl rfl dX12_fillTable_165 hX (fun a7 hX => ?_)
        refine lv_iload hx hb dX12_fillTable_166 (lv_at hl 7 rfl) ?_
        refine lv_iload hx hb dX12_fillTable_168 (lv_at hl 8 rfl) ?_
        refine lv_iload hx hb dX12_fillTable_170 (lv_at hl 5 rfl) ?_
        refine lv_imul hx hb dX12_fillTable_172 ?_
        refine lv_isub hx hb dX12_fillTable_173 ?_
        refine mh_iald cx wd dX12_fillTable_174 hX (fun v8 hX => ?_)
        refine lv_iload hx hb dX12_fillTable_175 (lv_at hl 8 rfl) ?_
        refine lv_iadd hx hb dX12_fillTable_177 ?_
        refine mh_mmin mh_Mok cx hl.1 km_X12_157 (Nat.le_of_ble_eq_true rfl) (Nat.le_of_ble_eq_true rfl) ⟨Nat.le_refl _, Nat.le_refl _⟩ dX12_fillTable_178 ?_
        refine mh_iast cx wd dX12_fillTable_181 hX (fun h9 H locs wd hX => ?_)
        obtain ⟨v10, ev10, hX⟩ := mh_nmx hX
        refine lv_iinc (k := 8) (v := v10) (lv' := [(9, .int v10), (0, .ref o0), (2, .ref o2), (3, .int x3), (4, .int x4), (5, .int x5), (6, .int x6), (7, .int x7), (8, .int x8)]) hx hb dX12_fillTable_182 hl rfl ev10 (Nat.le_of_ble_eq_true rfl) rfl (fun ls hl => ?_)
        refine lv_goto (tgt := 130) hx hb dX12_fillTable_185 rfl ?_
        exact ih _ _ _ _ _ _ _ _ _ h9 _ _ ls wd (lv_sub hl [1, 2, 3, 4, 5, 6, 7, 8, 0] rfl) hX
set_option maxRecDepth 100000 in
set_option maxHeartbeats 4000000 in
theorem w_X12_fillTable_b194 {p : Program} {l : Launch} {e : Env} {s : State} {m : MethodId} {args : Array Value} {below : List Frame} {meth : Method} {c : Code} {D : va_G} {ks : Nat → ClassId} {L : List Nat} {h' : mh_H} (k45 : Nat → Nat → Int32 → Int32 → Int32 → mh_H → Option mh_H) (cx : mh_C p m c cX12_fillTable 10 s args RX12 meth D ks (mh_A L s.heap.size)) (hr : meth.sig.returnType = none)
    (hk45 : ∀ (o0 : Nat) (o2 : Nat) (x3 : Int32) (x4 : Int32) (x5 : Int32) (h : mh_H) (H : Heap) (locs : List Loc) (ls : Array Slot), mh_W D ks L (mh_A L s.heap.size) s.heap h H locs → lv_has ls 10 [(0, .ref o0), (2, .ref o2), (3, .int x3), (4, .int x4), (5, .int x5)] → k45 o0 o2 x3 x4 x5 h = some h' → W p l e (mh_rm 1) s m args below meth c H locs 0 0 (MQ below (mh_Qv D ks L s.heap.size h') args s 0 0 (mh_A L s.heap.size)) (F0 m 45 ls [])) :
    ∀ (o0 : Nat) (o2 : Nat) (x3 : Int32) (x4 : Int32) (x5 : Int32) (h : mh_H) (H : Heap) (locs : List Loc) (ls : Array Slot), mh_W D ks L (mh_A L s.heap.size) s.heap h H locs → lv_has ls 10 [(0, .ref o0), (2, .ref o2), (3, .int x3), (4, .int x4), (5, .int x5)] → f_X12_fillTable_b194 k45 o0 o2 x3 x4 x5 h = some h' → W p l e (mh_rm 1) s m args below meth c H locs 0 0 (MQ below (mh_Qv D ks L s.heap.size h') args s 0 0 (mh_A L s.heap.size)) (F0 m 194 ls []) := by
  intro o0 o2 x3 x4 x5 h H locs ls wd hl hX
  have hx := cx.1.1
  have hb := cx.1.2.1
  unfold f_X12_fillTable_b194 at hX
  obtain ⟨v11, ev11, hX⟩ := mh_nmx hX
  refine lv_iinc (k := 4) (v := v11) (lv' := [(5, .int v11), (0, .ref o0), (2, .ref o2), (3, .int x3), (4, .int x4)]) hx hb dX12_fillTable_194 hl rfl ev11 (Nat.le_of_ble_eq_true rfl) rfl (fun ls hl => ?_)
  refine lv_goto (tgt := 45) hx hb dX12_fillTable_197 rfl ?_
  exact hk45 _ _ _ _ _ h _ _ ls wd (lv_sub hl [1, 2, 3, 4, 0] rfl) hX
set_option maxRecDepth 100000 in
set_option maxHeartbeats 4000000 in
theorem w_X12_fillTable_b120 {p : Program} {l : Launch} {e : Env} {s : State} {m : MethodId} {args : Array Value} {below : List Frame} {meth : Method} {c : Code} {D : va_G} {ks : Nat → ClassId} {L : List Nat} {h' : mh_H} (k45 : Nat → Nat → Int32 → Int32 → Int32 → mh_H → Option mh_H) (cx : mh_C p m c cX12_fillTable 10 s args RX12 meth D ks (mh_A L s.heap.size)) (hr : meth.sig.returnType = none)
    (hk45 : ∀ (o0 : Nat) (o2 : Nat) (x3 : Int32) (x4 : Int32) (x5 : Int32) (h : mh_H) (H : Heap) (locs : List Loc) (ls : Array Slot), mh_W D ks L (mh_A L s.heap.size) s.heap h H locs → lv_has ls 10 [(0, .ref o0), (2, .ref o2), (3, .int x3), (4, .int x4), (5, .int x5)] → k45 o0 o2 x3 x4 x5 h = some h' → W p l e (mh_rm 1) s m args below meth c H locs 0 0 (MQ below (mh_Qv D ks L s.heap.size h') args s 0 0 (mh_A L s.heap.size)) (F0 m 45 ls [])) :
    ∀ n : Nat, ∀ (o0 : Nat) (o2 : Nat) (x3 : Int32) (x4 : Int32) (x5 : Int32) (x6 : Int32) (x7 : Int32) (x8 : Int32) (h : mh_H) (H : Heap) (locs : List Loc) (ls : Array Slot), mh_W D ks L (mh_A L s.heap.size) s.heap h H locs → lv_has ls 10 [(0, .ref o0), (2, .ref o2), (3, .int x3), (4, .int x4), (5, .int x5), (6, .int x6), (7, .int x7), (8, .int x8)] → f_X12_fillTable_b120 k45 n o0 o2 x3 x4 x5 x6 x7 x8 h = some h' → W p l e (mh_rm 1) s m args below meth c H locs 0 0 (MQ below (mh_Qv D ks L s.heap.size h') args s 0 0 (mh_A L s.heap.size)) (F0 m 120 ls []) := by
  intro n
  induction n with
  | zero =>
    intro o0 o2 x3 x4 x5 x6 x7 x8 h H locs ls wd hl hX
    cases hX
  | succ n ih =>
    intro o0 o2 x3 x4 x5 x6 x7 x8 h H locs ls wd hl hX
    have hx := cx.1.1
    have hb := cx.1.2.1
    rw [f_X12_fillTable_b120] at hX
    refine lv_iload hx hb dX12_fillTable_120 (lv_at hl 7 rfl) ?_
    refine lv_iload hx hb dX12_fillTable_122 (lv_at hl 3 rfl) ?_
    refine lv_icmp_gt (tgt := 194) hx hb dX12_fillTable_124 rfl (fun hc => (fun hX => ?_) ((mh_if hX).1 hc)) (fun hc => (fun hX => ?_) ((mh_if hX).2 hc))
    · exact w_X12_fillTable_b194 k45 cx hr hk45 _ _ _ _ _ h _ _ ls wd (lv_sub hl [0, 1, 2, 3, 4] rfl) hX
    · refine lv_iconst (v := 0) hx hb dX12_fillTable_127 (by decide) ?_
      refine mh_topi hX (fun v12 hX => ?_)
      refine lv_istore (lv' := [(9, .int v12), (0, .ref o0), (2, .ref o2), (3, .int x3), (4, .int x4), (5, .int x5), (6, .int x6), (7, .int x7), (8, .int x8)]) hx hb dX12_fillTable_128 hl (Nat.le_of_ble_eq_true rfl) rfl (fun ls hl => ?_)
      exact w_X12_fillTable_b130 (f_X12_fillTable_b120 k45 n) cx hr ih mh_fu _ _ _ _ _ _ _ _ _ h _ _ ls wd (lv_sub hl [1, 2, 3, 4, 5, 6, 7, 8, 0] rfl) hX
set_option maxRecDepth 100000 in
set_option maxHeartbeats 4000000 in
theorem w_X12_fillTable_b117 {p : Program} {l : Launch} {e : Env} {s : State} {m : MethodId} {args : Array Value} {below : List Frame} {meth : Method} {c : Code} {D : va_G} {ks : Nat → ClassId} {L : List Nat} {h' : mh_H} (k45 : Nat → Nat → Int32 → Int32 → Int32 → mh_H → Option mh_H) (cx : mh_C p m c cX12_fillTable 10 s args RX12 meth D ks (mh_A L s.heap.size)) (hr : meth.sig.returnType = none)
    (hk45 : ∀ (o0 : Nat) (o2 : Nat) (x3 : Int32) (x4 : Int32) (x5 : Int32) (h : mh_H) (H : Heap) (locs : List Loc) (ls : Array Slot), mh_W D ks L (mh_A L s.heap.size) s.heap h H locs → lv_has ls 10 [(0, .ref o0), (2, .ref o2), (3, .int x3), (4, .int x4), (5, .int x5)] → k45 o0 o2 x3 x4 x5 h = some h' → W p l e (mh_rm 1) s m args below meth c H locs 0 0 (MQ below (mh_Qv D ks L s.heap.size h') args s 0 0 (mh_A L s.heap.size)) (F0 m 45 ls [])) :
    ∀ (o0 : Nat) (o2 : Nat) (x3 : Int32) (x4 : Int32) (x5 : Int32) (x6 : Int32) (x7 : Int32) (h : mh_H) (H : Heap) (locs : List Loc) (ls : Array Slot), mh_W D ks L (mh_A L s.heap.size) s.heap h H locs → lv_has ls 10 [(0, .ref o0), (2, .ref o2), (3, .int x3), (4, .int x4), (5, .int x5), (6, .int x6), (7, .int x7)] → f_X12_fillTable_b117 k45 o0 o2 x3 x4 x5 x6 x7 h = some h' → W p l e (mh_rm 1) s m args below meth c H locs 0 0 (MQ below (mh_Qv D ks L s.heap.size h') args s 0 0 (mh_A L s.heap.size)) (F0 m 117 ls []) := by
  intro o0 o2 x3 x4 x5 x6 x7 h H locs ls wd hl hX
  have hx := cx.1.1
  have hb := cx.1.2.1
  unfold f_X12_fillTable_b117 at hX
  refine lv_iconst (v := 0) hx hb dX12_fillTable_117 (by decide) ?_
  refine mh_topi hX (fun v13 hX => ?_)
  refine lv_istore (lv' := [(8, .int v13), (0, .ref o0), (2, .ref o2), (3, .int x3), (4, .int x4), (5, .int x5), (6, .int x6), (7, .int x7)]) hx hb dX12_fillTable_118 hl (Nat.le_of_ble_eq_true rfl) rfl (fun ls hl => ?_)
  exact w_X12_fillTable_b120 k45 cx hr hk45 mh_fu _ _ _ _ _ _ _ _ h _ _ ls wd (lv_sub hl [1, 2, 3, 4, 5, 6, 7, 0] rfl) hX
set_option maxRecDepth 100000 in
set_option maxHeartbeats 4000000 in
theorem w_X12_fillTable_b94 {p : Program} {l : Launch} {e : Env} {s : State} {m : MethodId} {args : Array Value} {below : List Frame} {meth : Method} {c : Code} {D : va_G} {ks : Nat → ClassId} {L : List Nat} {h' : mh_H} (k45 : Nat → Nat → Int32 → Int32 → Int32 → mh_H → Option mh_H) (cx : mh_C p m c cX12_fillTable 10 s args RX12 meth D ks (mh_A L s.heap.size)) (hr : meth.sig.returnType = none)
    (hk45 : ∀ (o0 : Nat) (o2 : Nat) (x3 : Int32) (x4 : Int32) (x5 : Int32) (h : mh_H) (H : Heap) (locs : List Loc) (ls : Array Slot), mh_W D ks L (mh_A L s.heap.size) s.heap h H locs → lv_has ls 10 [(0, .ref o0), (2, .ref o2), (3, .int x3), (4, .int x4), (5, .int x5)] → k45 o0 o2 x3 x4 x5 h = some h' → W p l e (mh_rm 1) s m args below meth c H locs 0 0 (MQ below (mh_Qv D ks L s.heap.size h') args s 0 0 (mh_A L s.heap.size)) (F0 m 45 ls [])) :
    ∀ n : Nat, ∀ (o0 : Nat) (o2 : Nat) (x3 : Int32) (x4 : Int32) (x5 : Int32) (x6 : Int32) (x7 : Int32) (x8 : Int32) (h : mh_H) (H : Heap) (locs : List Loc) (ls : Array Slot), mh_W D ks L (mh_A L s.heap.size) s.heap h H locs → lv_has ls 10 [(0, .ref o0), (2, .ref o2), (3, .int x3), (4, .int x4), (5, .int x5), (6, .int x6), (7, .int x7), (8, .int x8)] → f_X12_fillTable_b94 k45 n o0 o2 x3 x4 x5 x6 x7 x8 h = some h' → W p l e (mh_rm 1) s m args below meth c H locs 0 0 (MQ below (mh_Qv D ks L s.heap.size h') args s 0 0 (mh_A L s.heap.size)) (F0 m 94 ls []) := by
  intro n
  induction n with
  | zero =>
    intro o0 o2 x3 x4 x5 x6 x7 x8 h H locs ls wd hl hX
    cases hX
  | succ n ih =>
    intro o0 o2 x3 x4 x5 x6 x7 x8 h H locs ls wd hl hX
    have hx := cx.1.1
    have hb := cx.1.2.1
    rw [f_X12_fillTable_b94] at hX
    refine lv_iload hx hb dX12_fillTable_94 (lv_at hl 7 rfl) ?_
    refine lv_sipush (v := 20001) hx hb dX12_fillTable_96 (by decide) ?_
    refine lv_icmp_ge (tgt := 117) hx hb dX12_fillTable_99 rfl (fun hc => (fun hX => ?_) ((mh_if hX).1 hc)) (fun hc => (fun hX => ?_) ((mh_if hX).2 hc))
    · exact w_X12_fillTable_b117 k45 cx hr hk45 _ _ _ _ _ _ _ h _ _ ls wd (lv_sub hl [0, 1, 2, 3, 4, 5, 6] rfl) hX
    · refine lv_aload_n hx hb dX12_fillTable_102 rfl (lv_at hl 1 rfl) ?_
      refine lv_iload hx hb dX12_fillTable_103 (lv_at hl 4 rfl) ?_
      refine mh_aald cx wd 5 rfl rfl dX12_fillTable_105 hX (fun a14 hX => ?_)
      refine lv_iload hx hb dX12_fillTable_106 (lv_at hl 7 rfl) ?_
      refine mh_ldc cx kc_X12_126 dX12_fillTable_108 ?_
      refine mh_iast cx wd dX12_fillTable_110 hX (fun h15 H locs wd hX => ?_)
      obtain ⟨v16, ev16, hX⟩ := mh_nmx hX
      refine lv_iinc (k := 7) (v := v16) (lv' := [(8, .int v16), (0, .ref o0), (2, .ref o2), (3, .int x3), (4, .int x4), (5, .int x5), (6, .int x6), (7, .int x7)]) hx hb dX12_fillTable_111 hl rfl ev16 (Nat.le_of_ble_eq_true rfl) rfl (fun ls hl => ?_)
      refine lv_goto (tgt := 94) hx hb dX12_fillTable_114 rfl ?_
      exact ih _ _ _ _ _ _ _ _ h15 _ _ ls wd (lv_sub hl [1, 2, 3, 4, 5, 6, 7, 0] rfl) hX
set_option maxRecDepth 100000 in
set_option maxHeartbeats 4000000 in
theorem w_X12_fillTable_b200 {p : Program} {l : Launch} {e : Env} {s : State} {m : MethodId} {args : Array Value} {below : List Frame} {meth : Method} {c : Code} {D : va_G} {ks : Nat → ClassId} {L : List Nat} {h' : mh_H} (cx : mh_C p m c cX12_fillTable 10 s args RX12 meth D ks (mh_A L s.heap.size)) (hr : meth.sig.returnType = none) :
    ∀ (h : mh_H) (H : Heap) (locs : List Loc) (ls : Array Slot), mh_W D ks L (mh_A L s.heap.size) s.heap h H locs → lv_has ls 10 [] → f_X12_fillTable_b200  h = some h' → W p l e (mh_rm 1) s m args below meth c H locs 0 0 (MQ below (mh_Qv D ks L s.heap.size h') args s 0 0 (mh_A L s.heap.size)) (F0 m 200 ls []) := by
  intro  h H locs ls wd hl hX
  have hx := cx.1.1
  have hb := cx.1.2.1
  unfold f_X12_fillTable_b200 at hX
  exact mh_vret cx wd hr hX dX12_fillTable_200
set_option maxRecDepth 100000 in
set_option maxHeartbeats 4000000 in
theorem w_X12_fillTable_b45 {p : Program} {l : Launch} {e : Env} {s : State} {m : MethodId} {args : Array Value} {below : List Frame} {meth : Method} {c : Code} {D : va_G} {ks : Nat → ClassId} {L : List Nat} {h' : mh_H} (cx : mh_C p m c cX12_fillTable 10 s args RX12 meth D ks (mh_A L s.heap.size)) (hr : meth.sig.returnType = none) :
    ∀ n : Nat, ∀ (o0 : Nat) (o2 : Nat) (x3 : Int32) (x4 : Int32) (x5 : Int32) (h : mh_H) (H : Heap) (locs : List Loc) (ls : Array Slot), mh_W D ks L (mh_A L s.heap.size) s.heap h H locs → lv_has ls 10 [(0, .ref o0), (2, .ref o2), (3, .int x3), (4, .int x4), (5, .int x5)] → f_X12_fillTable_b45 n o0 o2 x3 x4 x5 h = some h' → W p l e (mh_rm 1) s m args below meth c H locs 0 0 (MQ below (mh_Qv D ks L s.heap.size h') args s 0 0 (mh_A L s.heap.size)) (F0 m 45 ls []) := by
  intro n
  induction n with
  | zero =>
    intro o0 o2 x3 x4 x5 h H locs ls wd hl hX
    cases hX
  | succ n ih =>
    intro o0 o2 x3 x4 x5 h H locs ls wd hl hX
    have hx := cx.1.1
    have hb := cx.1.2.1
    rw [f_X12_fillTable_b45] at hX
    refine lv_iload hx hb dX12_fillTable_45 (lv_at hl 4 rfl) ?_
    refine lv_aload_n hx hb dX12_fillTable_47 rfl (lv_at hl 0 rfl) ?_
    refine mh_getR cx wd fl_X12_9 dX12_fillTable_48 hX (fun a17 hX => ?_)
    refine lv_iload_n hx hb dX12_fillTable_51 rfl (lv_at hl 2 rfl) ?_
    refine mh_iald cx wd dX12_fillTable_52 hX (fun v18 hX => ?_)
    refine lv_icmp_gt (tgt := 200) hx hb dX12_fillTable_53 rfl (fun hc => (fun hX => ?_) ((mh_if hX).1 hc)) (fun hc => (fun hX => ?_) ((mh_if hX).2 hc))
    · exact w_X12_fillTable_b200 cx hr  h _ _ ls wd (lv_sub hl [] rfl) hX
    · refine lv_aload_n hx hb dX12_fillTable_56 rfl (lv_at hl 0 rfl) ?_
      refine mh_getR cx wd fl_X12_9 dX12_fillTable_57 hX (fun a19 hX => ?_)
      refine lv_iload_n hx hb dX12_fillTable_60 rfl (lv_at hl 2 rfl) ?_
      refine lv_iload hx hb dX12_fillTable_61 (lv_at hl 4 rfl) ?_
      refine lv_iadd hx hb dX12_fillTable_63 ?_
      refine mh_iald cx wd dX12_fillTable_64 hX (fun v20 hX => ?_)
      refine lv_istore (lv' := [(6, .int v20), (0, .ref o0), (2, .ref o2), (3, .int x3), (4, .int x4), (5, .int x5)]) hx hb dX12_fillTable_65 hl (Nat.le_of_ble_eq_true rfl) rfl (fun ls hl => ?_)
      refine lv_aload_n hx hb dX12_fillTable_67 rfl (lv_at hl 1 rfl) ?_
      refine mh_getR cx wd fl_X12_9 dX12_fillTable_68 hX (fun a21 hX => ?_)
      refine lv_iload_n hx hb dX12_fillTable_71 rfl (lv_at hl 3 rfl) ?_
      refine lv_bipush (v := 12) hx hb dX12_fillTable_72 (by decide) ?_
      refine lv_iadd hx hb dX12_fillTable_74 ?_
      refine lv_iload hx hb dX12_fillTable_75 (lv_at hl 5 rfl) ?_
      refine lv_iadd hx hb dX12_fillTable_77 ?_
      refine mh_iald cx wd dX12_fillTable_78 hX (fun v22 hX => ?_)
      refine lv_istore (lv' := [(7, .int v22), (6, .int v20), (0, .ref o0), (2, .ref o2), (3, .int x3), (4, .int x4), (5, .int x5)]) hx hb dX12_fillTable_79 hl (Nat.le_of_ble_eq_true rfl) rfl (fun ls hl => ?_)
      refine lv_iload hx hb dX12_fillTable_81 (lv_at hl 5 rfl) ?_
      refine lv_iload hx hb dX12_fillTable_83 (lv_at hl 1 rfl) ?_
      refine lv_iload hx hb dX12_fillTable_85 (lv_at hl 0 rfl) ?_
      refine lv_imul hx hb dX12_fillTable_87 ?_
      refine lv_iadd hx hb dX12_fillTable_88 ?_
      refine mh_topi hX (fun v23 hX => ?_)
      refine lv_istore (lv' := [(4, .int v23), (7, .int v22), (6, .int v20), (0, .ref o0), (2, .ref o2), (3, .int x3), (5, .int x5)]) hx hb dX12_fillTable_89 hl (Nat.le_of_ble_eq_true rfl) rfl (fun ls hl => ?_)
      refine lv_iconst (v := 0) hx hb dX12_fillTable_91 (by decide) ?_
      refine mh_topi hX (fun v24 hX => ?_)
      refine lv_istore (lv' := [(8, .int v24), (4, .int v23), (7, .int v22), (6, .int v20), (0, .ref o0), (2, .ref o2), (3, .int x3), (5, .int x5)]) hx hb dX12_fillTable_92 hl (Nat.le_of_ble_eq_true rfl) rfl (fun ls hl => ?_)
      exact w_X12_fillTable_b94 (f_X12_fillTable_b45 n) cx hr ih mh_fu _ _ _ _ _ _ _ _ h _ _ ls wd (lv_sub hl [4, 5, 6, 1, 7, 3, 2, 0] rfl) hX
set_option maxRecDepth 100000 in
set_option maxHeartbeats 4000000 in
theorem w_X12_fillTable_b39 {p : Program} {l : Launch} {e : Env} {s : State} {m : MethodId} {args : Array Value} {below : List Frame} {meth : Method} {c : Code} {D : va_G} {ks : Nat → ClassId} {L : List Nat} {h' : mh_H} (cx : mh_C p m c cX12_fillTable 10 s args RX12 meth D ks (mh_A L s.heap.size)) (hr : meth.sig.returnType = none) :
    ∀ (o0 : Nat) (o2 : Nat) (x3 : Int32) (h : mh_H) (H : Heap) (locs : List Loc) (ls : Array Slot), mh_W D ks L (mh_A L s.heap.size) s.heap h H locs → lv_has ls 10 [(0, .ref o0), (2, .ref o2), (3, .int x3)] → f_X12_fillTable_b39 o0 o2 x3 h = some h' → W p l e (mh_rm 1) s m args below meth c H locs 0 0 (MQ below (mh_Qv D ks L s.heap.size h') args s 0 0 (mh_A L s.heap.size)) (F0 m 39 ls []) := by
  intro o0 o2 x3 h H locs ls wd hl hX
  have hx := cx.1.1
  have hb := cx.1.2.1
  unfold f_X12_fillTable_b39 at hX
  refine lv_iconst (v := 0) hx hb dX12_fillTable_39 (by decide) ?_
  refine mh_topi hX (fun v25 hX => ?_)
  refine lv_istore (lv' := [(4, .int v25), (0, .ref o0), (2, .ref o2), (3, .int x3)]) hx hb dX12_fillTable_40 hl (Nat.le_of_ble_eq_true rfl) rfl (fun ls hl => ?_)
  refine lv_iconst (v := 1) hx hb dX12_fillTable_42 (by decide) ?_
  refine mh_topi hX (fun v26 hX => ?_)
  refine lv_istore (lv' := [(5, .int v26), (4, .int v25), (0, .ref o0), (2, .ref o2), (3, .int x3)]) hx hb dX12_fillTable_43 hl (Nat.le_of_ble_eq_true rfl) rfl (fun ls hl => ?_)
  exact w_X12_fillTable_b45 cx hr mh_fu _ _ _ _ _ h _ _ ls wd (lv_sub hl [2, 3, 4, 1, 0] rfl) hX
set_option maxRecDepth 100000 in
set_option maxHeartbeats 4000000 in
theorem w_X12_fillTable_b8 {p : Program} {l : Launch} {e : Env} {s : State} {m : MethodId} {args : Array Value} {below : List Frame} {meth : Method} {c : Code} {D : va_G} {ks : Nat → ClassId} {L : List Nat} {h' : mh_H} (cx : mh_C p m c cX12_fillTable 10 s args RX12 meth D ks (mh_A L s.heap.size)) (hr : meth.sig.returnType = none) :
    ∀ n : Nat, ∀ (o0 : Nat) (o2 : Nat) (x3 : Int32) (x4 : Int32) (h : mh_H) (H : Heap) (locs : List Loc) (ls : Array Slot), mh_W D ks L (mh_A L s.heap.size) s.heap h H locs → lv_has ls 10 [(0, .ref o0), (2, .ref o2), (3, .int x3), (4, .int x4)] → f_X12_fillTable_b8 n o0 o2 x3 x4 h = some h' → W p l e (mh_rm 1) s m args below meth c H locs 0 0 (MQ below (mh_Qv D ks L s.heap.size h') args s 0 0 (mh_A L s.heap.size)) (F0 m 8 ls []) := by
  intro n
  induction n with
  | zero =>
    intro o0 o2 x3 x4 h H locs ls wd hl hX
    cases hX
  | succ n ih =>
    intro o0 o2 x3 x4 h H locs ls wd hl hX
    have hx := cx.1.1
    have hb := cx.1.2.1
    rw [f_X12_fillTable_b8] at hX
    refine lv_iload hx hb dX12_fillTable_8 (lv_at hl 3 rfl) ?_
    refine lv_sipush (v := 20001) hx hb dX12_fillTable_10 (by decide) ?_
    refine lv_icmp_ge (tgt := 39) hx hb dX12_fillTable_13 rfl (fun hc => (fun hX => ?_) ((mh_if hX).1 hc)) (fun hc => (fun hX => ?_) ((mh_if hX).2 hc))
    · exact w_X12_fillTable_b39 cx hr _ _ _ h _ _ ls wd (lv_sub hl [0, 1, 2] rfl) hX
    · refine lv_aload_n hx hb dX12_fillTable_16 rfl (lv_at hl 1 rfl) ?_
      refine lv_iconst (v := 0) hx hb dX12_fillTable_17 (by decide) ?_
      refine mh_aald cx wd 5 rfl rfl dX12_fillTable_18 hX (fun a27 hX => ?_)
      refine lv_iload hx hb dX12_fillTable_19 (lv_at hl 3 rfl) ?_
      refine lv_iload hx hb dX12_fillTable_21 (lv_at hl 3 rfl) ?_
      refine lv_if_ne (tgt := 30) hx hb dX12_fillTable_23 rfl (fun hc => (fun hX => ?_) ((mh_if hX).2 hc)) (fun hc => (fun hX => ?_) ((mh_if hX).1 hc))
      · refine mh_ldc cx kc_X12_126 dX12_fillTable_30 ?_
        exact w_X12_fillTable_b32 (f_X12_fillTable_b8 n) cx hr ih _ _ _ _ _ _ _ h _ _ ls wd (lv_sub hl [0, 1, 2, 3] rfl) hX
      · refine lv_iconst (v := 0) hx hb dX12_fillTable_26 (by decide) ?_
        refine lv_goto (tgt := 32) hx hb dX12_fillTable_27 rfl ?_
        exact w_X12_fillTable_b32 (f_X12_fillTable_b8 n) cx hr ih _ _ _ _ _ _ _ h _ _ ls wd (lv_sub hl [0, 1, 2, 3] rfl) hX
set_option maxRecDepth 100000 in
set_option maxHeartbeats 4000000 in
theorem w_X12_fillTable_e {p : Program} {l : Launch} {e : Env} {s : State} {m : MethodId} {args : Array Value} {below : List Frame} {meth : Method} {c : Code} {D : va_G} {ks : Nat → ClassId} {L : List Nat} {h' : mh_H} (cx : mh_C p m c cX12_fillTable 10 s args RX12 meth D ks (mh_A L s.heap.size)) (hr : meth.sig.returnType = none) :
    ∀ (o0 : Nat) (x1 : Int32) (o2 : Nat) (h : mh_H) (H : Heap) (locs : List Loc) (ls : Array Slot), mh_W D ks L (mh_A L s.heap.size) s.heap h H locs → lv_has ls 10 [(0, .ref o0), (1, .int x1), (2, .ref o2)] → f_X12_fillTable_e o0 x1 o2 h = some h' → W p l e (mh_rm 1) s m args below meth c H locs 0 0 (MQ below (mh_Qv D ks L s.heap.size h') args s 0 0 (mh_A L s.heap.size)) (F0 m 0 ls []) := by
  intro o0 x1 o2 h H locs ls wd hl hX
  have hx := cx.1.1
  have hb := cx.1.2.1
  unfold f_X12_fillTable_e at hX
  refine lv_iload_n hx hb dX12_fillTable_0 rfl (lv_at hl 1 rfl) ?_
  refine mh_callSI cx wd [.int x1] yw_X12_purseAt sw_X12_260 rfl hl.1 rfl (Nat.le_of_ble_eq_true rfl) dX12_fillTable_1 ⟨Nat.le_of_ble_eq_true rfl, Nat.le_of_ble_eq_true rfl⟩ ⟨Nat.le_refl _, Nat.le_refl _⟩ (fun _ _ q => c_X12_purseAt q) hX (fun v29 h28 H locs wd hX => ?_)
  refine lv_istore_n (lv' := [(3, .int v29), (0, .ref o0), (1, .int x1), (2, .ref o2)]) hx hb dX12_fillTable_4 rfl hl (Nat.le_of_ble_eq_true rfl) rfl (fun ls hl => ?_)
  refine lv_iconst (v := 0) hx hb dX12_fillTable_5 (by decide) ?_
  refine mh_topi hX (fun v30 hX => ?_)
  refine lv_istore (lv' := [(4, .int v30), (3, .int v29), (0, .ref o0), (1, .int x1), (2, .ref o2)]) hx hb dX12_fillTable_6 hl (Nat.le_of_ble_eq_true rfl) rfl (fun ls hl => ?_)
  exact w_X12_fillTable_b8 cx hr mh_fu _ _ _ _ h28 _ _ ls wd (lv_sub hl [2, 4, 1, 0] rfl) hX
set_option maxRecDepth 100000 in
theorem c_X12_fillTable {l : Launch} {L : List Nat} {h h' : mh_H} {o0 : Nat} {x1 : Int32} {o2 : Nat} (hX : f_X12_fillTable_e o0 x1 o2 h = some h') : mh_MV l yX12_fillTable (Cond.code yX12_fillTable cX12_fillTable 10 none :: mh_TB) (mh_rm 1) [.ref o0, .int x1, .ref o2] L h h' :=
  mh_of (mc := 0) (ms := 0) (Qc := fun D ks sz => mh_Qv D ks L sz h') (plainFor_of_name (by decide)) (Nat.le_of_ble_eq_true rfl) (fun p e s m below meth c D ks ls hr cx wd hl => by
    have hl : lv_has ls 10 [(0, .ref o0), (1, .int x1), (2, .ref o2)] := hl
    exact w_X12_fillTable_e cx hr o0 x1 o2 h _ _ ls wd hl hX)
def f_X12_pays_b31 (h : mh_H) : Option (Int32 × mh_H) :=
  some ((-1 : Int32), h)
def f_X12_pays_b70 (t0 : Int32) (h : mh_H) : Option (Int32 × mh_H) :=
  some (t0, h)
def f_X12_pays_e (o0 : Nat) (x1 : Int32) (x2 : Int32) (h : mh_H) : Option (Int32 × mh_H) :=
  (mh_pI h o0 12 0 (0 : Int32)).bind fun h1 =>
  mh_b2 (f_X12_isMint_e x1 h1) fun v3 h2 =>
  if v3 = 0 then (
  mh_b2 (mh_cal h2 o0 12 (f_X12_fail_e o0 (1 : Int32) h2)) fun v16 h15 =>
  some (v16, h15)) else
  if x2 < 0 then (
  f_X12_pays_b31 h2) else
  mh_b2 (mh_cal h2 o0 12 (f_X12_allOf_e o0 x1 h2)) fun v5 h4 =>
  if x2 ≤ v5 then (
  (mh_gR h4 o0 12 30).bind fun a6 =>
  (mh_cal h4 o0 12 (f_X12_fillTable_e o0 x1 a6 h4)).bind fun h7 =>
  (mh_gR h7 o0 12 30).bind fun a8 =>
  (mh_gR h7 o0 12 1).bind fun a9 =>
  mh_b2 (f_X12_purseAt_e x1 h7) fun v11 h10 =>
  (mh_aI h10 a9 0 v11).bind fun v12 =>
  (mh_aR h10 a8 5 v12).bind fun a13 =>
  (mh_aI h10 a13 0 x2).bind fun v14 =>
  if v14 < (536870912 : Int32) then (
  f_X12_pays_b70 v14 h10) else
  f_X12_pays_b70 (-1 : Int32) h10) else
  f_X12_pays_b31 h4
set_option maxRecDepth 100000 in
set_option maxHeartbeats 4000000 in
theorem w_X12_pays_b31 {p : Program} {l : Launch} {e : Env} {s : State} {m : MethodId} {args : Array Value} {below : List Frame} {meth : Method} {c : Code} {D : va_G} {ks : Nat → ClassId} {L : List Nat} {r : Int32} {h' : mh_H} (cx : mh_C p m c cX12_pays 4 s args RX12 meth D ks (mh_A L s.heap.size)) (hr : meth.sig.returnType = (some .int)) :
    ∀ (h : mh_H) (H : Heap) (locs : List Loc) (ls : Array Slot), mh_W D ks L (mh_A L s.heap.size) s.heap h H locs → lv_has ls 4 [] → f_X12_pays_b31  h = some (r, h') → W p l e (mh_rm 2) s m args below meth c H locs 0 0 (MQ below (mh_Qi D ks L s.heap.size r h') args s 0 0 (mh_A L s.heap.size)) (F0 m 31 ls []) := by
  intro  h H locs ls wd hl hX
  have hx := cx.1.1
  have hb := cx.1.2.1
  unfold f_X12_pays_b31 at hX
  refine lv_iconst (v := (-1)) hx hb dX12_pays_31 (by decide) ?_
  exact mh_iret cx wd hr hX dX12_pays_32
set_option maxRecDepth 100000 in
set_option maxHeartbeats 4000000 in
theorem w_X12_pays_b70 {p : Program} {l : Launch} {e : Env} {s : State} {m : MethodId} {args : Array Value} {below : List Frame} {meth : Method} {c : Code} {D : va_G} {ks : Nat → ClassId} {L : List Nat} {r : Int32} {h' : mh_H} (cx : mh_C p m c cX12_pays 4 s args RX12 meth D ks (mh_A L s.heap.size)) (hr : meth.sig.returnType = (some .int)) :
    ∀ (t0 : Int32) (h : mh_H) (H : Heap) (locs : List Loc) (ls : Array Slot), mh_W D ks L (mh_A L s.heap.size) s.heap h H locs → lv_has ls 4 [] → f_X12_pays_b70 t0 h = some (r, h') → W p l e (mh_rm 2) s m args below meth c H locs 0 0 (MQ below (mh_Qi D ks L s.heap.size r h') args s 0 0 (mh_A L s.heap.size)) (F0 m 70 ls [.int t0]) := by
  intro t0 h H locs ls wd hl hX
  have hx := cx.1.1
  have hb := cx.1.2.1
  unfold f_X12_pays_b70 at hX
  exact mh_iret cx wd hr hX dX12_pays_70
set_option maxRecDepth 100000 in
set_option maxHeartbeats 4000000 in
theorem w_X12_pays_e {p : Program} {l : Launch} {e : Env} {s : State} {m : MethodId} {args : Array Value} {below : List Frame} {meth : Method} {c : Code} {D : va_G} {ks : Nat → ClassId} {L : List Nat} {r : Int32} {h' : mh_H} (cx : mh_C p m c cX12_pays 4 s args RX12 meth D ks (mh_A L s.heap.size)) (hr : meth.sig.returnType = (some .int)) :
    ∀ (o0 : Nat) (x1 : Int32) (x2 : Int32) (h : mh_H) (H : Heap) (locs : List Loc) (ls : Array Slot), mh_W D ks L (mh_A L s.heap.size) s.heap h H locs → lv_has ls 4 [(0, .ref o0), (1, .int x1), (2, .int x2)] → f_X12_pays_e o0 x1 x2 h = some (r, h') → W p l e (mh_rm 2) s m args below meth c H locs 0 0 (MQ below (mh_Qi D ks L s.heap.size r h') args s 0 0 (mh_A L s.heap.size)) (F0 m 0 ls []) := by
  intro o0 x1 x2 h H locs ls wd hl hX
  have hx := cx.1.1
  have hb := cx.1.2.1
  unfold f_X12_pays_e at hX
  refine lv_aload_n hx hb dX12_pays_0 rfl (lv_at hl 0 rfl) ?_
  refine lv_iconst (v := 0) hx hb dX12_pays_1 (by decide) ?_
  refine mh_putI cx wd fp_X12_96 dX12_pays_2 hX (fun h1 H locs wd hX => ?_)
  refine lv_iload_n hx hb dX12_pays_5 rfl (lv_at hl 1 rfl) ?_
  refine mh_callSI cx wd [.int x1] yw_X12_isMint sw_X12_111 rfl hl.1 rfl (Nat.le_of_ble_eq_true rfl) dX12_pays_6 ⟨Nat.le_of_ble_eq_true rfl, Nat.le_of_ble_eq_true rfl⟩ ⟨Nat.le_refl _, Nat.le_refl _⟩ (fun _ _ q => c_X12_isMint q) hX (fun v3 h2 H locs wd hX => ?_)
  refine lv_if_ne (tgt := 18) hx hb dX12_pays_9 rfl (fun hc => (fun hX => ?_) ((mh_if hX).2 hc)) (fun hc => (fun hX => ?_) ((mh_if hX).1 hc))
  · refine lv_iload_n hx hb dX12_pays_18 rfl (lv_at hl 2 rfl) ?_
    refine lv_if_lt (tgt := 31) hx hb dX12_pays_19 rfl (fun hc => (fun hX => ?_) ((mh_if hX).1 hc)) (fun hc => (fun hX => ?_) ((mh_if hX).2 hc))
    · exact w_X12_pays_b31 cx hr  h2 _ _ ls wd (lv_sub hl [] rfl) hX
    · refine lv_iload_n hx hb dX12_pays_22 rfl (lv_at hl 2 rfl) ?_
      refine lv_aload_n hx hb dX12_pays_23 rfl (lv_at hl 0 rfl) ?_
      refine lv_iload_n hx hb dX12_pays_24 rfl (lv_at hl 1 rfl) ?_
      refine mh_callVI cx wd [.int x1] (rfl : vwCl[12]? = some (RX12, TX12, 38)) yw_X12_allOf vw_X12_263 rfl hl.1 rfl (Nat.le_of_ble_eq_true rfl) dX12_pays_25 ⟨Nat.le_of_ble_eq_true rfl, Nat.le_of_ble_eq_true rfl⟩ ⟨Nat.le_refl _, Nat.le_refl _⟩ (fun _ _ q => c_X12_allOf q) hX (fun v5 h4 H locs wd hX => ?_)
      refine lv_icmp_le (tgt := 33) hx hb dX12_pays_28 rfl (fun hc => (fun hX => ?_) ((mh_if hX).1 hc)) (fun hc => (fun hX => ?_) ((mh_if hX).2 hc))
      · refine lv_aload_n hx hb dX12_pays_33 rfl (lv_at hl 0 rfl) ?_
        refine lv_iload_n hx hb dX12_pays_34 rfl (lv_at hl 1 rfl) ?_
        refine lv_aload_n hx hb dX12_pays_35 rfl (lv_at hl 0 rfl) ?_
        refine mh_getR cx wd fl_X12_72 dX12_pays_36 hX (fun a6 hX => ?_)
        refine mh_callVV cx wd [.int x1, .ref a6] (rfl : vwCl[12]? = some (RX12, TX12, 38)) yw_X12_fillTable vw_X12_268 rfl hl.1 rfl (Nat.le_of_ble_eq_true rfl) dX12_pays_39 ⟨Nat.le_of_ble_eq_true rfl, Nat.le_of_ble_eq_true rfl⟩ ⟨Nat.le_refl _, Nat.le_refl _⟩ (fun _ q => c_X12_fillTable q) hX (fun h7 H locs wd hX => ?_)
        refine lv_aload_n hx hb dX12_pays_42 rfl (lv_at hl 0 rfl) ?_
        refine mh_getR cx wd fl_X12_72 dX12_pays_43 hX (fun a8 hX => ?_)
        refine lv_aload_n hx hb dX12_pays_46 rfl (lv_at hl 0 rfl) ?_
        refine mh_getR cx wd fl_X12_9 dX12_pays_47 hX (fun a9 hX => ?_)
        refine lv_iload_n hx hb dX12_pays_50 rfl (lv_at hl 1 rfl) ?_
        refine mh_callSI cx wd [.int x1] yw_X12_purseAt sw_X12_260 rfl hl.1 rfl (Nat.le_of_ble_eq_true rfl) dX12_pays_51 ⟨Nat.le_of_ble_eq_true rfl, Nat.le_of_ble_eq_true rfl⟩ ⟨Nat.le_refl _, Nat.le_refl _⟩ (fun _ _ q => c_X12_purseAt q) hX (fun v11 h10 H locs wd hX => ?_)
        refine mh_iald cx wd dX12_pays_54 hX (fun v12 hX => ?_)
        refine mh_aald cx wd 5 rfl rfl dX12_pays_55 hX (fun a13 hX => ?_)
        refine lv_iload_n hx hb dX12_pays_56 rfl (lv_at hl 2 rfl) ?_
        refine mh_iald cx wd dX12_pays_57 hX (fun v14 hX => ?_)
        refine lv_istore_n (lv' := [(3, .int v14), (0, .ref o0), (1, .int x1), (2, .int x2)]) hx hb dX12_pays_58 rfl hl (Nat.le_of_ble_eq_true rfl) rfl (fun ls hl => ?_)
        refine lv_iload_n hx hb dX12_pays_59 rfl (lv_at hl 0 rfl) ?_
        refine mh_ldc cx kc_X12_126 dX12_pays_60 ?_
        refine lv_icmp_lt (tgt := 69) hx hb dX12_pays_62 rfl (fun hc => (fun hX => ?_) ((mh_if hX).1 hc)) (fun hc => (fun hX => ?_) ((mh_if hX).2 hc))
        · refine lv_iload_n hx hb dX12_pays_69 rfl (lv_at hl 0 rfl) ?_
          exact w_X12_pays_b70 cx hr _ h10 _ _ ls wd (lv_sub hl [] rfl) hX
        · refine lv_iconst (v := (-1)) hx hb dX12_pays_65 (by decide) ?_
          refine lv_goto (tgt := 70) hx hb dX12_pays_66 rfl ?_
          exact w_X12_pays_b70 cx hr _ h10 _ _ ls wd (lv_sub hl [] rfl) hX
      · exact w_X12_pays_b31 cx hr  h4 _ _ ls wd (lv_sub hl [] rfl) hX
  · refine lv_aload_n hx hb dX12_pays_12 rfl (lv_at hl 0 rfl) ?_
    refine lv_iconst (v := 1) hx hb dX12_pays_13 (by decide) ?_
    refine mh_callVI cx wd [.int (1 : Int32)] (rfl : vwCl[12]? = some (RX12, TX12, 38)) yw_X12_fail vw_X12_122 rfl hl.1 rfl (Nat.le_of_ble_eq_true rfl) dX12_pays_14 ⟨Nat.le_of_ble_eq_true rfl, Nat.le_of_ble_eq_true rfl⟩ ⟨Nat.le_refl _, Nat.le_refl _⟩ (fun _ _ q => c_X12_fail q) hX (fun v16 h15 H locs wd hX => ?_)
    exact mh_iret cx wd hr hX dX12_pays_17
set_option maxRecDepth 100000 in
theorem c_X12_pays {l : Launch} {L : List Nat} {h h' : mh_H} {r : Int32} {o0 : Nat} {x1 : Int32} {x2 : Int32} (hX : f_X12_pays_e o0 x1 x2 h = some (r, h')) : mh_MI l yX12_pays (Cond.code yX12_pays cX12_pays 4 (some .int) :: mh_TB) (mh_rm 2) [.ref o0, .int x1, .int x2] L h r h' :=
  mh_of (mc := 0) (ms := 0) (Qc := fun D ks sz => mh_Qi D ks L sz r h') (plainFor_of_name (by decide)) (Nat.le_of_ble_eq_true rfl) (fun p e s m below meth c D ks ls hr cx wd hl => by
    have hl : lv_has ls 4 [(0, .ref o0), (1, .int x1), (2, .int x2)] := hl
    exact w_X12_pays_e cx hr o0 x1 x2 h _ _ ls wd hl hX)
def f_X12_holes_b72 (k38 : Nat → Int32 → Int32 → Int32 → Int32 → mh_H → Option (Int32 × mh_H)) (o0 : Nat) (x1 : Int32) (x3 : Int32) (x4 : Int32) (t0 : Int32) (t1 : Int32) (h : mh_H) : Option (Int32 × mh_H) :=
  mh_nm (t0 + t1) fun v1 =>
  mh_nm (x4 + Int32.ofInt (1)) fun v2 =>
  k38 o0 x1 v1 x3 v2 h
def f_X12_holes_b80 (x2 : Int32) (h : mh_H) : Option (Int32 × mh_H) :=
  some (x2, h)
def f_X12_holes_b38 : Nat → Nat → Int32 → Int32 → Int32 → Int32 → mh_H → Option (Int32 × mh_H)
  | 0, _, _, _, _, _, _ => none
  | n + 1, o0, x1, x2, x3, x4, h =>
    if x3 < x4 then (
    f_X12_holes_b80 x2 h) else
    (mh_gR h o0 12 30).bind fun a3 =>
    (mh_gR h o0 12 1).bind fun a4 =>
    mh_b2 (f_X12_purseAt_e x1 h) fun v6 h5 =>
    (mh_aI h5 a4 0 v6).bind fun v7 =>
    (mh_aR h5 a3 5 v7).bind fun a8 =>
    (mh_aI h5 a8 0 x4).bind fun v9 =>
    if v9 < (536870912 : Int32) then (
    f_X12_holes_b72 (f_X12_holes_b38 n) o0 x1 x3 x4 x2 (0 : Int32) h5) else
    f_X12_holes_b72 (f_X12_holes_b38 n) o0 x1 x3 x4 x2 (1 : Int32) h5
def f_X12_holes_e (o0 : Nat) (x1 : Int32) (h : mh_H) : Option (Int32 × mh_H) :=
  (mh_pI h o0 12 0 (0 : Int32)).bind fun h10 =>
  mh_b2 (f_X12_isMint_e x1 h10) fun v12 h11 =>
  if v12 = 0 then (
  mh_b2 (mh_cal h11 o0 12 (f_X12_fail_e o0 (1 : Int32) h11)) fun v20 h19 =>
  some (v20, h19)) else
  (mh_gR h11 o0 12 30).bind fun a13 =>
  (mh_cal h11 o0 12 (f_X12_fillTable_e o0 x1 a13 h11)).bind fun h14 =>
  mh_nm (0 : Int32) fun v15 =>
  mh_b2 (mh_cal h14 o0 12 (f_X12_allOf_e o0 x1 h14)) fun v17 h16 =>
  mh_nm (0 : Int32) fun v18 =>
  f_X12_holes_b38 mh_fu o0 x1 v15 v17 v18 h16
set_option maxRecDepth 100000 in
set_option maxHeartbeats 4000000 in
theorem w_X12_holes_b72 {p : Program} {l : Launch} {e : Env} {s : State} {m : MethodId} {args : Array Value} {below : List Frame} {meth : Method} {c : Code} {D : va_G} {ks : Nat → ClassId} {L : List Nat} {r : Int32} {h' : mh_H} (k38 : Nat → Int32 → Int32 → Int32 → Int32 → mh_H → Option (Int32 × mh_H)) (cx : mh_C p m c cX12_holes 5 s args RX12 meth D ks (mh_A L s.heap.size)) (hr : meth.sig.returnType = (some .int))
    (hk38 : ∀ (o0 : Nat) (x1 : Int32) (x2 : Int32) (x3 : Int32) (x4 : Int32) (h : mh_H) (H : Heap) (locs : List Loc) (ls : Array Slot), mh_W D ks L (mh_A L s.heap.size) s.heap h H locs → lv_has ls 5 [(0, .ref o0), (1, .int x1), (2, .int x2), (3, .int x3), (4, .int x4)] → k38 o0 x1 x2 x3 x4 h = some (r, h') → W p l e (mh_rm 2) s m args below meth c H locs 0 0 (MQ below (mh_Qi D ks L s.heap.size r h') args s 0 0 (mh_A L s.heap.size)) (F0 m 38 ls [])) :
    ∀ (o0 : Nat) (x1 : Int32) (x3 : Int32) (x4 : Int32) (t0 : Int32) (t1 : Int32) (h : mh_H) (H : Heap) (locs : List Loc) (ls : Array Slot), mh_W D ks L (mh_A L s.heap.size) s.heap h H locs → lv_has ls 5 [(0, .ref o0), (1, .int x1), (3, .int x3), (4, .int x4)] → f_X12_holes_b72 k38 o0 x1 x3 x4 t0 t1 h = some (r, h') → W p l e (mh_rm 2) s m args below meth c H locs 0 0 (MQ below (mh_Qi D ks L s.heap.size r h') args s 0 0 (mh_A L s.heap.size)) (F0 m 72 ls [.int t1, .int t0]) := by
  intro o0 x1 x3 x4 t0 t1 h H locs ls wd hl hX
  have hx := cx.1.1
  have hb := cx.1.2.1
  unfold f_X12_holes_b72 at hX
  refine lv_iadd hx hb dX12_holes_72 ?_
  refine mh_topi hX (fun v1 hX => ?_)
  refine lv_istore_n (lv' := [(2, .int v1), (0, .ref o0), (1, .int x1), (3, .int x3), (4, .int x4)]) hx hb dX12_holes_73 rfl hl (Nat.le_of_ble_eq_true rfl) rfl (fun ls hl => ?_)
  obtain ⟨v2, ev2, hX⟩ := mh_nmx hX
  refine lv_iinc (k := 4) (v := v2) (lv' := [(4, .int v2), (2, .int v1), (0, .ref o0), (1, .int x1), (3, .int x3)]) hx hb dX12_holes_74 hl rfl ev2 (Nat.le_of_ble_eq_true rfl) rfl (fun ls hl => ?_)
  refine lv_goto (tgt := 38) hx hb dX12_holes_77 rfl ?_
  exact hk38 _ _ _ _ _ h _ _ ls wd (lv_sub hl [2, 3, 1, 4, 0] rfl) hX
set_option maxRecDepth 100000 in
set_option maxHeartbeats 4000000 in
theorem w_X12_holes_b80 {p : Program} {l : Launch} {e : Env} {s : State} {m : MethodId} {args : Array Value} {below : List Frame} {meth : Method} {c : Code} {D : va_G} {ks : Nat → ClassId} {L : List Nat} {r : Int32} {h' : mh_H} (cx : mh_C p m c cX12_holes 5 s args RX12 meth D ks (mh_A L s.heap.size)) (hr : meth.sig.returnType = (some .int)) :
    ∀ (x2 : Int32) (h : mh_H) (H : Heap) (locs : List Loc) (ls : Array Slot), mh_W D ks L (mh_A L s.heap.size) s.heap h H locs → lv_has ls 5 [(2, .int x2)] → f_X12_holes_b80 x2 h = some (r, h') → W p l e (mh_rm 2) s m args below meth c H locs 0 0 (MQ below (mh_Qi D ks L s.heap.size r h') args s 0 0 (mh_A L s.heap.size)) (F0 m 80 ls []) := by
  intro x2 h H locs ls wd hl hX
  have hx := cx.1.1
  have hb := cx.1.2.1
  unfold f_X12_holes_b80 at hX
  refine lv_iload_n hx hb dX12_holes_80 rfl (lv_at hl 0 rfl) ?_
  exact mh_iret cx wd hr hX dX12_holes_81
set_option maxRecDepth 100000 in
set_option maxHeartbeats 4000000 in
theorem w_X12_holes_b38 {p : Program} {l : Launch} {e : Env} {s : State} {m : MethodId} {args : Array Value} {below : List Frame} {meth : Method} {c : Code} {D : va_G} {ks : Nat → ClassId} {L : List Nat} {r : Int32} {h' : mh_H} (cx : mh_C p m c cX12_holes 5 s args RX12 meth D ks (mh_A L s.heap.size)) (hr : meth.sig.returnType = (some .int)) :
    ∀ n : Nat, ∀ (o0 : Nat) (x1 : Int32) (x2 : Int32) (x3 : Int32) (x4 : Int32) (h : mh_H) (H : Heap) (locs : List Loc) (ls : Array Slot), mh_W D ks L (mh_A L s.heap.size) s.heap h H locs → lv_has ls 5 [(0, .ref o0), (1, .int x1), (2, .int x2), (3, .int x3), (4, .int x4)] → f_X12_holes_b38 n o0 x1 x2 x3 x4 h = some (r, h') → W p l e (mh_rm 2) s m args below meth c H locs 0 0 (MQ below (mh_Qi D ks L s.heap.size r h') args s 0 0 (mh_A L s.heap.size)) (F0 m 38 ls []) := by
  intro n
  induction n with
  | zero =>
    intro o0 x1 x2 x3 x4 h H locs ls wd hl hX
    cases hX
  | succ n ih =>
    intro o0 x1 x2 x3 x4 h H locs ls wd hl hX
    have hx := cx.1.1
    have hb := cx.1.2.1
    rw [f_X12_holes_b38] at hX
    refine lv_iload hx hb dX12_holes_38 (lv_at hl 4 rfl) ?_
    refine lv_iload_n hx hb dX12_holes_40 rfl (lv_at hl 3 rfl) ?_
    refine lv_icmp_gt (tgt := 80) hx hb dX12_holes_41 rfl (fun hc => (fun hX => ?_) ((mh_if hX).1 hc)) (fun hc => (fun hX => ?_) ((mh_if hX).2 hc))
    · exact w_X12_holes_b80 cx hr _ h _ _ ls wd (lv_sub hl [2] rfl) hX
    · refine lv_iload_n hx hb dX12_holes_44 rfl (lv_at hl 2 rfl) ?_
      refine lv_aload_n hx hb dX12_holes_45 rfl (lv_at hl 0 rfl) ?_
      refine mh_getR cx wd fl_X12_72 dX12_holes_46 hX (fun a3 hX => ?_)
      refine lv_aload_n hx hb dX12_holes_49 rfl (lv_at hl 0 rfl) ?_
      refine mh_getR cx wd fl_X12_9 dX12_holes_50 hX (fun a4 hX => ?_)
      refine lv_iload_n hx hb dX12_holes_53 rfl (lv_at hl 1 rfl) ?_
      refine mh_callSI cx wd [.int x1] yw_X12_purseAt sw_X12_260 rfl hl.1 rfl (Nat.le_of_ble_eq_true rfl) dX12_holes_54 ⟨Nat.le_of_ble_eq_true rfl, Nat.le_of_ble_eq_true rfl⟩ ⟨Nat.le_refl _, Nat.le_refl _⟩ (fun _ _ q => c_X12_purseAt q) hX (fun v6 h5 H locs wd hX => ?_)
      refine mh_iald cx wd dX12_holes_57 hX (fun v7 hX => ?_)
      refine mh_aald cx wd 5 rfl rfl dX12_holes_58 hX (fun a8 hX => ?_)
      refine lv_iload hx hb dX12_holes_59 (lv_at hl 4 rfl) ?_
      refine mh_iald cx wd dX12_holes_61 hX (fun v9 hX => ?_)
      refine mh_ldc cx kc_X12_126 dX12_holes_62 ?_
      refine lv_icmp_lt (tgt := 71) hx hb dX12_holes_64 rfl (fun hc => (fun hX => ?_) ((mh_if hX).1 hc)) (fun hc => (fun hX => ?_) ((mh_if hX).2 hc))
      · refine lv_iconst (v := 0) hx hb dX12_holes_71 (by decide) ?_
        exact w_X12_holes_b72 (f_X12_holes_b38 n) cx hr ih _ _ _ _ _ _ h5 _ _ ls wd (lv_sub hl [0, 1, 3, 4] rfl) hX
      · refine lv_iconst (v := 1) hx hb dX12_holes_67 (by decide) ?_
        refine lv_goto (tgt := 72) hx hb dX12_holes_68 rfl ?_
        exact w_X12_holes_b72 (f_X12_holes_b38 n) cx hr ih _ _ _ _ _ _ h5 _ _ ls wd (lv_sub hl [0, 1, 3, 4] rfl) hX
set_option maxRecDepth 100000 in
set_option maxHeartbeats 4000000 in
theorem w_X12_holes_e {p : Program} {l : Launch} {e : Env} {s : State} {m : MethodId} {args : Array Value} {below : List Frame} {meth : Method} {c : Code} {D : va_G} {ks : Nat → ClassId} {L : List Nat} {r : Int32} {h' : mh_H} (cx : mh_C p m c cX12_holes 5 s args RX12 meth D ks (mh_A L s.heap.size)) (hr : meth.sig.returnType = (some .int)) :
    ∀ (o0 : Nat) (x1 : Int32) (h : mh_H) (H : Heap) (locs : List Loc) (ls : Array Slot), mh_W D ks L (mh_A L s.heap.size) s.heap h H locs → lv_has ls 5 [(0, .ref o0), (1, .int x1)] → f_X12_holes_e o0 x1 h = some (r, h') → W p l e (mh_rm 2) s m args below meth c H locs 0 0 (MQ below (mh_Qi D ks L s.heap.size r h') args s 0 0 (mh_A L s.heap.size)) (F0 m 0 ls []) := by
  intro o0 x1 h H locs ls wd hl hX
  have hx := cx.1.1
  have hb := cx.1.2.1
  unfold f_X12_holes_e at hX
  refine lv_aload_n hx hb dX12_holes_0 rfl (lv_at hl 0 rfl) ?_
  refine lv_iconst (v := 0) hx hb dX12_holes_1 (by decide) ?_
  refine mh_putI cx wd fp_X12_96 dX12_holes_2 hX (fun h10 H locs wd hX => ?_)
  refine lv_iload_n hx hb dX12_holes_5 rfl (lv_at hl 1 rfl) ?_
  refine mh_callSI cx wd [.int x1] yw_X12_isMint sw_X12_111 rfl hl.1 rfl (Nat.le_of_ble_eq_true rfl) dX12_holes_6 ⟨Nat.le_of_ble_eq_true rfl, Nat.le_of_ble_eq_true rfl⟩ ⟨Nat.le_refl _, Nat.le_refl _⟩ (fun _ _ q => c_X12_isMint q) hX (fun v12 h11 H locs wd hX => ?_)
  refine lv_if_ne (tgt := 18) hx hb dX12_holes_9 rfl (fun hc => (fun hX => ?_) ((mh_if hX).2 hc)) (fun hc => (fun hX => ?_) ((mh_if hX).1 hc))
  · refine lv_aload_n hx hb dX12_holes_18 rfl (lv_at hl 0 rfl) ?_
    refine lv_iload_n hx hb dX12_holes_19 rfl (lv_at hl 1 rfl) ?_
    refine lv_aload_n hx hb dX12_holes_20 rfl (lv_at hl 0 rfl) ?_
    refine mh_getR cx wd fl_X12_72 dX12_holes_21 hX (fun a13 hX => ?_)
    refine mh_callVV cx wd [.int x1, .ref a13] (rfl : vwCl[12]? = some (RX12, TX12, 38)) yw_X12_fillTable vw_X12_268 rfl hl.1 rfl (Nat.le_of_ble_eq_true rfl) dX12_holes_24 ⟨Nat.le_of_ble_eq_true rfl, Nat.le_of_ble_eq_true rfl⟩ ⟨Nat.le_refl _, Nat.le_refl _⟩ (fun _ q => c_X12_fillTable q) hX (fun h14 H locs wd hX => ?_)
    refine lv_iconst (v := 0) hx hb dX12_holes_27 (by decide) ?_
    refine mh_topi hX (fun v15 hX => ?_)
    refine lv_istore_n (lv' := [(2, .int v15), (0, .ref o0), (1, .int x1)]) hx hb dX12_holes_28 rfl hl (Nat.le_of_ble_eq_true rfl) rfl (fun ls hl => ?_)
    refine lv_aload_n hx hb dX12_holes_29 rfl (lv_at hl 1 rfl) ?_
    refine lv_iload_n hx hb dX12_holes_30 rfl (lv_at hl 2 rfl) ?_
    refine mh_callVI cx wd [.int x1] (rfl : vwCl[12]? = some (RX12, TX12, 38)) yw_X12_allOf vw_X12_263 rfl hl.1 rfl (Nat.le_of_ble_eq_true rfl) dX12_holes_31 ⟨Nat.le_of_ble_eq_true rfl, Nat.le_of_ble_eq_true rfl⟩ ⟨Nat.le_refl _, Nat.le_refl _⟩ (fun _ _ q => c_X12_allOf q) hX (fun v17 h16 H locs wd hX => ?_)
    refine lv_istore_n (lv' := [(3, .int v17), (2, .int v15), (0, .ref o0), (1, .int x1)]) hx hb dX12_holes_34 rfl hl (Nat.le_of_ble_eq_true rfl) rfl (fun ls hl => ?_)
    refine lv_iconst (v := 0) hx hb dX12_holes_35 (by decide) ?_
    refine mh_topi hX (fun v18 hX => ?_)
    refine lv_istore (lv' := [(4, .int v18), (3, .int v17), (2, .int v15), (0, .ref o0), (1, .int x1)]) hx hb dX12_holes_36 hl (Nat.le_of_ble_eq_true rfl) rfl (fun ls hl => ?_)
    exact w_X12_holes_b38 cx hr mh_fu _ _ _ _ _ h16 _ _ ls wd (lv_sub hl [3, 4, 2, 1, 0] rfl) hX
  · refine lv_aload_n hx hb dX12_holes_12 rfl (lv_at hl 0 rfl) ?_
    refine lv_iconst (v := 1) hx hb dX12_holes_13 (by decide) ?_
    refine mh_callVI cx wd [.int (1 : Int32)] (rfl : vwCl[12]? = some (RX12, TX12, 38)) yw_X12_fail vw_X12_122 rfl hl.1 rfl (Nat.le_of_ble_eq_true rfl) dX12_holes_14 ⟨Nat.le_of_ble_eq_true rfl, Nat.le_of_ble_eq_true rfl⟩ ⟨Nat.le_refl _, Nat.le_refl _⟩ (fun _ _ q => c_X12_fail q) hX (fun v20 h19 H locs wd hX => ?_)
    exact mh_iret cx wd hr hX dX12_holes_17
set_option maxRecDepth 100000 in
theorem c_X12_holes {l : Launch} {L : List Nat} {h h' : mh_H} {r : Int32} {o0 : Nat} {x1 : Int32} (hX : f_X12_holes_e o0 x1 h = some (r, h')) : mh_MI l yX12_holes (Cond.code yX12_holes cX12_holes 5 (some .int) :: mh_TB) (mh_rm 2) [.ref o0, .int x1] L h r h' :=
  mh_of (mc := 0) (ms := 0) (Qc := fun D ks sz => mh_Qi D ks L sz r h') (plainFor_of_name (by decide)) (Nat.le_of_ble_eq_true rfl) (fun p e s m below meth c D ks ls hr cx wd hl => by
    have hl : lv_has ls 5 [(0, .ref o0), (1, .int x1)] := hl
    exact w_X12_holes_e cx hr o0 x1 h _ _ ls wd hl hX)
def f_X12_least_b90 (k25 : Nat → Int32 → Int64 → Int32 → Int32 → Int32 → Int32 → Int32 → mh_H → Option (Int32 × mh_H)) (o0 : Nat) (x1 : Int32) (y3 : Int64) (x5 : Int32) (x6 : Int32) (x7 : Int32) (x8 : Int32) (x9 : Int32) (h : mh_H) : Option (Int32 × mh_H) :=
  mh_nm (x9 + Int32.ofInt (1)) fun v1 =>
  k25 o0 x1 y3 x5 x6 x7 x8 v1 h
def f_X12_least_b96 (x6 : Int32) (h : mh_H) : Option (Int32 × mh_H) :=
  some (x6, h)
def f_X12_least_b25 : Nat → Nat → Int32 → Int64 → Int32 → Int32 → Int32 → Int32 → Int32 → mh_H → Option (Int32 × mh_H)
  | 0, _, _, _, _, _, _, _, _, _ => none
  | n + 1, o0, x1, y3, x5, x6, x7, x8, x9, h =>
    if x7 < x9 then (
    f_X12_least_b96 x6 h) else
    mh_nm ((y3 + (x9).toInt64) - (x5).toInt64) fun w2 =>
    if (lg_cmp w2 (0 : Int64)) < 0 then (
    f_X12_least_b90 (f_X12_least_b25 n) o0 x1 y3 x5 x6 x7 x8 x9 h) else
    if (lg_cmp w2 (20001 : Int64)) < 0 then (
    (mh_gR h o0 12 30).bind fun a3 =>
    (mh_aR h a3 5 x1).bind fun a4 =>
    (mh_aI h a4 0 ((w2).toInt32)).bind fun v5 =>
    (mh_gR h o0 12 31).bind fun a6 =>
    (mh_aR h a6 5 x8).bind fun a7 =>
    (mh_aI h a7 0 x9).bind fun v8 =>
    mh_nm (if (v5 + v8) < x6 then (v5 + v8) else x6) fun v9 =>
    f_X12_least_b90 (f_X12_least_b25 n) o0 x1 y3 x5 v9 x7 x8 x9 h) else
    f_X12_least_b90 (f_X12_least_b25 n) o0 x1 y3 x5 x6 x7 x8 x9 h
def f_X12_least_e (o0 : Nat) (x1 : Int32) (x2 : Int32) (y3 : Int64) (x5 : Int32) (h : mh_H) : Option (Int32 × mh_H) :=
  mh_nm (536870912 : Int32) fun v10 =>
  mh_b2 (mh_cal h o0 12 (f_X12_allOf_e o0 x2 h)) fun v12 h11 =>
  (mh_gR h11 o0 12 1).bind fun a13 =>
  mh_b2 (f_X12_purseAt_e x2 h11) fun v15 h14 =>
  (mh_aI h14 a13 0 v15).bind fun v16 =>
  mh_nm (0 : Int32) fun v17 =>
  f_X12_least_b25 mh_fu o0 x1 y3 x5 v10 v12 v16 v17 h14
set_option maxRecDepth 100000 in
set_option maxHeartbeats 4000000 in
theorem w_X12_least_b90 {p : Program} {l : Launch} {e : Env} {s : State} {m : MethodId} {args : Array Value} {below : List Frame} {meth : Method} {c : Code} {D : va_G} {ks : Nat → ClassId} {L : List Nat} {r : Int32} {h' : mh_H} (k25 : Nat → Int32 → Int64 → Int32 → Int32 → Int32 → Int32 → Int32 → mh_H → Option (Int32 × mh_H)) (cx : mh_C p m c cX12_least 12 s args RX12 meth D ks (mh_A L s.heap.size)) (hr : meth.sig.returnType = (some .int))
    (hk25 : ∀ (o0 : Nat) (x1 : Int32) (y3 : Int64) (x5 : Int32) (x6 : Int32) (x7 : Int32) (x8 : Int32) (x9 : Int32) (h : mh_H) (H : Heap) (locs : List Loc) (ls : Array Slot), mh_W D ks L (mh_A L s.heap.size) s.heap h H locs → lv_has ls 12 [(0, .ref o0), (1, .int x1), (3, .long y3), (5, .int x5), (6, .int x6), (7, .int x7), (8, .int x8), (9, .int x9)] → k25 o0 x1 y3 x5 x6 x7 x8 x9 h = some (r, h') → W p l e (mh_rm 2) s m args below meth c H locs 0 0 (MQ below (mh_Qi D ks L s.heap.size r h') args s 0 0 (mh_A L s.heap.size)) (F0 m 25 ls [])) :
    ∀ (o0 : Nat) (x1 : Int32) (y3 : Int64) (x5 : Int32) (x6 : Int32) (x7 : Int32) (x8 : Int32) (x9 : Int32) (h : mh_H) (H : Heap) (locs : List Loc) (ls : Array Slot), mh_W D ks L (mh_A L s.heap.size) s.heap h H locs → lv_has ls 12 [(0, .ref o0), (1, .int x1), (3, .long y3), (5, .int x5), (6, .int x6), (7, .int x7), (8, .int x8), (9, .int x9)] → f_X12_least_b90 k25 o0 x1 y3 x5 x6 x7 x8 x9 h = some (r, h') → W p l e (mh_rm 2) s m args below meth c H locs 0 0 (MQ below (mh_Qi D ks L s.heap.size r h') args s 0 0 (mh_A L s.heap.size)) (F0 m 90 ls []) := by
  intro o0 x1 y3 x5 x6 x7 x8 x9 h H locs ls wd hl hX
  have hx := cx.1.1
  have hb := cx.1.2.1
  unfold f_X12_least_b90 at hX
  obtain ⟨v1, ev1, hX⟩ := mh_nmx hX
  refine lv_iinc (k := 7) (v := v1) (lv' := [(9, .int v1), (0, .ref o0), (1, .int x1), (3, .long y3), (5, .int x5), (6, .int x6), (7, .int x7), (8, .int x8)]) hx hb dX12_least_90 hl rfl ev1 (Nat.le_of_ble_eq_true rfl) rfl (fun ls hl => ?_)
  refine lv_goto (tgt := 25) hx hb dX12_least_93 rfl ?_
  exact hk25 _ _ _ _ _ _ _ _ h _ _ ls wd (lv_sub hl [1, 2, 3, 4, 5, 6, 7, 0] rfl) hX
set_option maxRecDepth 100000 in
set_option maxHeartbeats 4000000 in
theorem w_X12_least_b96 {p : Program} {l : Launch} {e : Env} {s : State} {m : MethodId} {args : Array Value} {below : List Frame} {meth : Method} {c : Code} {D : va_G} {ks : Nat → ClassId} {L : List Nat} {r : Int32} {h' : mh_H} (cx : mh_C p m c cX12_least 12 s args RX12 meth D ks (mh_A L s.heap.size)) (hr : meth.sig.returnType = (some .int)) :
    ∀ (x6 : Int32) (h : mh_H) (H : Heap) (locs : List Loc) (ls : Array Slot), mh_W D ks L (mh_A L s.heap.size) s.heap h H locs → lv_has ls 12 [(6, .int x6)] → f_X12_least_b96 x6 h = some (r, h') → W p l e (mh_rm 2) s m args below meth c H locs 0 0 (MQ below (mh_Qi D ks L s.heap.size r h') args s 0 0 (mh_A L s.heap.size)) (F0 m 96 ls []) := by
  intro x6 h H locs ls wd hl hX
  have hx := cx.1.1
  have hb := cx.1.2.1
  unfold f_X12_least_b96 at hX
  refine lv_iload hx hb dX12_least_96 (lv_at hl 0 rfl) ?_
  exact mh_iret cx wd hr hX dX12_least_98
set_option maxRecDepth 100000 in
set_option maxHeartbeats 4000000 in
theorem w_X12_least_b25 {p : Program} {l : Launch} {e : Env} {s : State} {m : MethodId} {args : Array Value} {below : List Frame} {meth : Method} {c : Code} {D : va_G} {ks : Nat → ClassId} {L : List Nat} {r : Int32} {h' : mh_H} (cx : mh_C p m c cX12_least 12 s args RX12 meth D ks (mh_A L s.heap.size)) (hr : meth.sig.returnType = (some .int)) :
    ∀ n : Nat, ∀ (o0 : Nat) (x1 : Int32) (y3 : Int64) (x5 : Int32) (x6 : Int32) (x7 : Int32) (x8 : Int32) (x9 : Int32) (h : mh_H) (H : Heap) (locs : List Loc) (ls : Array Slot), mh_W D ks L (mh_A L s.heap.size) s.heap h H locs → lv_has ls 12 [(0, .ref o0), (1, .int x1), (3, .long y3), (5, .int x5), (6, .int x6), (7, .int x7), (8, .int x8), (9, .int x9)] → f_X12_least_b25 n o0 x1 y3 x5 x6 x7 x8 x9 h = some (r, h') → W p l e (mh_rm 2) s m args below meth c H locs 0 0 (MQ below (mh_Qi D ks L s.heap.size r h') args s 0 0 (mh_A L s.heap.size)) (F0 m 25 ls []) := by
  intro n
  induction n with
  | zero =>
    intro o0 x1 y3 x5 x6 x7 x8 x9 h H locs ls wd hl hX
    cases hX
  | succ n ih =>
    intro o0 x1 y3 x5 x6 x7 x8 x9 h H locs ls wd hl hX
    have hx := cx.1.1
    have hb := cx.1.2.1
    rw [f_X12_least_b25] at hX
    refine lv_iload hx hb dX12_least_25 (lv_at hl 7 rfl) ?_
    refine lv_iload hx hb dX12_least_27 (lv_at hl 5 rfl) ?_
    refine lv_icmp_gt (tgt := 96) hx hb dX12_least_29 rfl (fun hc => (fun hX => ?_) ((mh_if hX).1 hc)) (fun hc => (fun hX => ?_) ((mh_if hX).2 hc))
    · exact w_X12_least_b96 cx hr _ h _ _ ls wd (lv_sub hl [4] rfl) hX
    · refine lv_lload_n hx hb dX12_least_32 rfl (lv_at hl 2 rfl) ?_
      refine lv_iload hx hb dX12_least_33 (lv_at hl 7 rfl) ?_
      refine lv_i2l hx hb dX12_least_35 rfl ?_
      refine lv_ladd hx hb dX12_least_36 ?_
      refine lv_iload hx hb dX12_least_37 (lv_at hl 3 rfl) ?_
      refine lv_i2l hx hb dX12_least_39 rfl ?_
      refine lv_lsub hx hb dX12_least_40 ?_
      refine mh_topl hX (fun w2 hX => ?_)
      refine lv_lstore (lv' := [(10, .long w2), (0, .ref o0), (1, .int x1), (3, .long y3), (5, .int x5), (6, .int x6), (7, .int x7), (8, .int x8), (9, .int x9)]) hx hb dX12_least_41 hl (Nat.le_of_ble_eq_true rfl) rfl (fun ls hl => ?_)
      refine lv_lload hx hb dX12_least_43 (lv_at hl 0 rfl) ?_
      refine lv_lconst (v := 0) hx hb dX12_least_45 (by decide) ?_
      refine W.lcmp hx hb dX12_least_46 ?_
      refine lv_if_lt (tgt := 90) hx hb dX12_least_47 rfl (fun hc => (fun hX => ?_) ((mh_if hX).1 hc)) (fun hc => (fun hX => ?_) ((mh_if hX).2 hc))
      · exact w_X12_least_b90 (f_X12_least_b25 n) cx hr ih _ _ _ _ _ _ _ _ h _ _ ls wd (lv_sub hl [1, 2, 3, 4, 5, 6, 7, 8] rfl) hX
      · refine lv_lload hx hb dX12_least_50 (lv_at hl 0 rfl) ?_
        refine mh_ldc2 cx kl_X12_272 dX12_least_52 ?_
        refine W.lcmp hx hb dX12_least_55 ?_
        refine lv_if_lt (tgt := 62) hx hb dX12_least_56 rfl (fun hc => (fun hX => ?_) ((mh_if hX).1 hc)) (fun hc => (fun hX => ?_) ((mh_if hX).2 hc))
        · refine lv_iload hx hb dX12_least_62 (lv_at hl 5 rfl) ?_
          refine lv_aload_n hx hb dX12_least_64 rfl (lv_at hl 1 rfl) ?_
          refine mh_getR cx wd fl_X12_72 dX12_least_65 hX (fun a3 hX => ?_)
          refine lv_iload_n hx hb dX12_least_68 rfl (lv_at hl 2 rfl) ?_
          refine mh_aald cx wd 5 rfl rfl dX12_least_69 hX (fun a4 hX => ?_)
          refine lv_lload hx hb dX12_least_70 (lv_at hl 0 rfl) ?_
          refine lv_l2i hx hb dX12_least_72 rfl ?_
          refine mh_iald cx wd dX12_least_73 hX (fun v5 hX => ?_)
          refine lv_aload_n hx hb dX12_least_74 rfl (lv_at hl 1 rfl) ?_
          refine mh_getR cx wd fl_X12_75 dX12_least_75 hX (fun a6 hX => ?_)
          refine lv_iload hx hb dX12_least_78 (lv_at hl 7 rfl) ?_
          refine mh_aald cx wd 5 rfl rfl dX12_least_80 hX (fun a7 hX => ?_)
          refine lv_iload hx hb dX12_least_81 (lv_at hl 8 rfl) ?_
          refine mh_iald cx wd dX12_least_83 hX (fun v8 hX => ?_)
          refine lv_iadd hx hb dX12_least_84 ?_
          refine mh_mmin mh_Mok cx hl.1 km_X12_157 (Nat.le_of_ble_eq_true rfl) (Nat.le_of_ble_eq_true rfl) ⟨Nat.le_refl _, Nat.le_refl _⟩ dX12_least_85 ?_
          refine mh_topi hX (fun v9 hX => ?_)
          refine lv_istore (lv' := [(6, .int v9), (10, .long w2), (0, .ref o0), (1, .int x1), (3, .long y3), (5, .int x5), (7, .int x7), (8, .int x8), (9, .int x9)]) hx hb dX12_least_88 hl (Nat.le_of_ble_eq_true rfl) rfl (fun ls hl => ?_)
          exact w_X12_least_b90 (f_X12_least_b25 n) cx hr ih _ _ _ _ _ _ _ _ h _ _ ls wd (lv_sub hl [2, 3, 4, 5, 0, 6, 7, 8] rfl) hX
        · refine lv_goto (tgt := 90) hx hb dX12_least_59 rfl ?_
          exact w_X12_least_b90 (f_X12_least_b25 n) cx hr ih _ _ _ _ _ _ _ _ h _ _ ls wd (lv_sub hl [1, 2, 3, 4, 5, 6, 7, 8] rfl) hX
set_option maxRecDepth 100000 in
set_option maxHeartbeats 4000000 in
theorem w_X12_least_e {p : Program} {l : Launch} {e : Env} {s : State} {m : MethodId} {args : Array Value} {below : List Frame} {meth : Method} {c : Code} {D : va_G} {ks : Nat → ClassId} {L : List Nat} {r : Int32} {h' : mh_H} (cx : mh_C p m c cX12_least 12 s args RX12 meth D ks (mh_A L s.heap.size)) (hr : meth.sig.returnType = (some .int)) :
    ∀ (o0 : Nat) (x1 : Int32) (x2 : Int32) (y3 : Int64) (x5 : Int32) (h : mh_H) (H : Heap) (locs : List Loc) (ls : Array Slot), mh_W D ks L (mh_A L s.heap.size) s.heap h H locs → lv_has ls 12 [(0, .ref o0), (1, .int x1), (2, .int x2), (3, .long y3), (5, .int x5)] → f_X12_least_e o0 x1 x2 y3 x5 h = some (r, h') → W p l e (mh_rm 2) s m args below meth c H locs 0 0 (MQ below (mh_Qi D ks L s.heap.size r h') args s 0 0 (mh_A L s.heap.size)) (F0 m 0 ls []) := by
  intro o0 x1 x2 y3 x5 h H locs ls wd hl hX
  have hx := cx.1.1
  have hb := cx.1.2.1
  unfold f_X12_least_e at hX
  refine mh_ldc cx kc_X12_126 dX12_least_0 ?_
  refine mh_topi hX (fun v10 hX => ?_)
  refine lv_istore (lv' := [(6, .int v10), (0, .ref o0), (1, .int x1), (2, .int x2), (3, .long y3), (5, .int x5)]) hx hb dX12_least_2 hl (Nat.le_of_ble_eq_true rfl) rfl (fun ls hl => ?_)
  refine lv_aload_n hx hb dX12_least_4 rfl (lv_at hl 1 rfl) ?_
  refine lv_iload_n hx hb dX12_least_5 rfl (lv_at hl 3 rfl) ?_
  refine mh_callVI cx wd [.int x2] (rfl : vwCl[12]? = some (RX12, TX12, 38)) yw_X12_allOf vw_X12_263 rfl hl.1 rfl (Nat.le_of_ble_eq_true rfl) dX12_least_6 ⟨Nat.le_of_ble_eq_true rfl, Nat.le_of_ble_eq_true rfl⟩ ⟨Nat.le_refl _, Nat.le_refl _⟩ (fun _ _ q => c_X12_allOf q) hX (fun v12 h11 H locs wd hX => ?_)
  refine lv_istore (lv' := [(7, .int v12), (6, .int v10), (0, .ref o0), (1, .int x1), (2, .int x2), (3, .long y3), (5, .int x5)]) hx hb dX12_least_9 hl (Nat.le_of_ble_eq_true rfl) rfl (fun ls hl => ?_)
  refine lv_aload_n hx hb dX12_least_11 rfl (lv_at hl 2 rfl) ?_
  refine mh_getR cx wd fl_X12_9 dX12_least_12 hX (fun a13 hX => ?_)
  refine lv_iload_n hx hb dX12_least_15 rfl (lv_at hl 4 rfl) ?_
  refine mh_callSI cx wd [.int x2] yw_X12_purseAt sw_X12_260 rfl hl.1 rfl (Nat.le_of_ble_eq_true rfl) dX12_least_16 ⟨Nat.le_of_ble_eq_true rfl, Nat.le_of_ble_eq_true rfl⟩ ⟨Nat.le_refl _, Nat.le_refl _⟩ (fun _ _ q => c_X12_purseAt q) hX (fun v15 h14 H locs wd hX => ?_)
  refine mh_iald cx wd dX12_least_19 hX (fun v16 hX => ?_)
  refine lv_istore (lv' := [(8, .int v16), (7, .int v12), (6, .int v10), (0, .ref o0), (1, .int x1), (2, .int x2), (3, .long y3), (5, .int x5)]) hx hb dX12_least_20 hl (Nat.le_of_ble_eq_true rfl) rfl (fun ls hl => ?_)
  refine lv_iconst (v := 0) hx hb dX12_least_22 (by decide) ?_
  refine mh_topi hX (fun v17 hX => ?_)
  refine lv_istore (lv' := [(9, .int v17), (8, .int v16), (7, .int v12), (6, .int v10), (0, .ref o0), (1, .int x1), (2, .int x2), (3, .long y3), (5, .int x5)]) hx hb dX12_least_23 hl (Nat.le_of_ble_eq_true rfl) rfl (fun ls hl => ?_)
  exact w_X12_least_b25 cx hr mh_fu _ _ _ _ _ _ _ _ h14 _ _ ls wd (lv_sub hl [4, 5, 7, 8, 3, 2, 1, 0] rfl) hX
set_option maxRecDepth 100000 in
theorem c_X12_least {l : Launch} {L : List Nat} {h h' : mh_H} {r : Int32} {o0 : Nat} {x1 : Int32} {x2 : Int32} {y3 : Int64} {x5 : Int32} (hX : f_X12_least_e o0 x1 x2 y3 x5 h = some (r, h')) : mh_MI l yX12_least (Cond.code yX12_least cX12_least 12 (some .int) :: mh_TB) (mh_rm 2) [.ref o0, .int x1, .int x2, .long y3, .int x5] L h r h' :=
  mh_of (mc := 0) (ms := 0) (Qc := fun D ks sz => mh_Qi D ks L sz r h') (plainFor_of_name (by decide)) (Nat.le_of_ble_eq_true rfl) (fun p e s m below meth c D ks ls hr cx wd hl => by
    have hl : lv_has ls 12 [(0, .ref o0), (1, .int x1), (2, .int x2), (3, .long y3), (5, .int x5)] := hl
    exact w_X12_least_e cx hr o0 x1 x2 y3 x5 h _ _ ls wd hl hX)
def f_X12_change_b19 (o0 : Nat) (h : mh_H) : Option (Int32 × mh_H) :=
  mh_b2 (mh_cal h o0 12 (f_X12_fail_e o0 (1 : Int32) h)) fun v2 h1 =>
  some (v2, h1)
def f_X12_change_b34 (o0 : Nat) (h : mh_H) : Option (Int32 × mh_H) :=
  mh_b2 (mh_cal h o0 12 (f_X12_fail_e o0 (2 : Int32) h)) fun v4 h3 =>
  some (v4, h3)
def f_X12_change_b90 (t0 : Int32) (h : mh_H) : Option (Int32 × mh_H) :=
  some (t0, h)
def f_X12_change_e (o0 : Nat) (x1 : Int32) (x2 : Int32) (x3 : Int32) (h : mh_H) : Option (Int32 × mh_H) :=
  (mh_pI h o0 12 0 (0 : Int32)).bind fun h5 =>
  mh_b2 (f_X12_isMint_e x1 h5) fun v7 h6 =>
  if v7 = 0 then (
  f_X12_change_b19 o0 h6) else
  mh_b2 (f_X12_isMint_e x2 h6) fun v9 h8 =>
  if v9 = 0 then (
  f_X12_change_b19 o0 h8) else
  if x3 < 0 then (
  f_X12_change_b34 o0 h8) else
  if x1 = x2 then (
  f_X12_change_b34 o0 h8) else
  (mh_gR h8 o0 12 30).bind fun a10 =>
  (mh_cal h8 o0 12 (f_X12_fillTable_e o0 x1 a10 h8)).bind fun h11 =>
  (mh_gR h11 o0 12 31).bind fun a12 =>
  (mh_cal h11 o0 12 (f_X12_fillTable_e o0 x2 a12 h11)).bind fun h13 =>
  (mh_gR h13 o0 12 1).bind fun a14 =>
  mh_b2 (f_X12_purseAt_e x1 h13) fun v16 h15 =>
  (mh_aI h15 a14 0 v16).bind fun v17 =>
  mh_b2 (mh_cal h15 o0 12 (f_X12_least_e o0 v17 x2 ((x3).toInt64) (0 : Int32) h15)) fun v19 h18 =>
  if v19 < (536870912 : Int32) then (
  f_X12_change_b90 v19 h18) else
  f_X12_change_b90 (-1 : Int32) h18
set_option maxRecDepth 100000 in
set_option maxHeartbeats 4000000 in
theorem w_X12_change_b19 {p : Program} {l : Launch} {e : Env} {s : State} {m : MethodId} {args : Array Value} {below : List Frame} {meth : Method} {c : Code} {D : va_G} {ks : Nat → ClassId} {L : List Nat} {r : Int32} {h' : mh_H} (cx : mh_C p m c cX12_change 5 s args RX12 meth D ks (mh_A L s.heap.size)) (hr : meth.sig.returnType = (some .int)) :
    ∀ (o0 : Nat) (h : mh_H) (H : Heap) (locs : List Loc) (ls : Array Slot), mh_W D ks L (mh_A L s.heap.size) s.heap h H locs → lv_has ls 5 [(0, .ref o0)] → f_X12_change_b19 o0 h = some (r, h') → W p l e (mh_rm 3) s m args below meth c H locs 0 0 (MQ below (mh_Qi D ks L s.heap.size r h') args s 0 0 (mh_A L s.heap.size)) (F0 m 19 ls []) := by
  intro o0 h H locs ls wd hl hX
  have hx := cx.1.1
  have hb := cx.1.2.1
  unfold f_X12_change_b19 at hX
  refine lv_aload_n hx hb dX12_change_19 rfl (lv_at hl 0 rfl) ?_
  refine lv_iconst (v := 1) hx hb dX12_change_20 (by decide) ?_
  refine mh_callVI cx wd [.int (1 : Int32)] (rfl : vwCl[12]? = some (RX12, TX12, 38)) yw_X12_fail vw_X12_122 rfl hl.1 rfl (Nat.le_of_ble_eq_true rfl) dX12_change_21 ⟨Nat.le_of_ble_eq_true rfl, Nat.le_of_ble_eq_true rfl⟩ ⟨Nat.le_refl _, Nat.le_refl _⟩ (fun _ _ q => c_X12_fail q) hX (fun v2 h1 H locs wd hX => ?_)
  exact mh_iret cx wd hr hX dX12_change_24
set_option maxRecDepth 100000 in
set_option maxHeartbeats 4000000 in
theorem w_X12_change_b34 {p : Program} {l : Launch} {e : Env} {s : State} {m : MethodId} {args : Array Value} {below : List Frame} {meth : Method} {c : Code} {D : va_G} {ks : Nat → ClassId} {L : List Nat} {r : Int32} {h' : mh_H} (cx : mh_C p m c cX12_change 5 s args RX12 meth D ks (mh_A L s.heap.size)) (hr : meth.sig.returnType = (some .int)) :
    ∀ (o0 : Nat) (h : mh_H) (H : Heap) (locs : List Loc) (ls : Array Slot), mh_W D ks L (mh_A L s.heap.size) s.heap h H locs → lv_has ls 5 [(0, .ref o0)] → f_X12_change_b34 o0 h = some (r, h') → W p l e (mh_rm 3) s m args below meth c H locs 0 0 (MQ below (mh_Qi D ks L s.heap.size r h') args s 0 0 (mh_A L s.heap.size)) (F0 m 34 ls []) := by
  intro o0 h H locs ls wd hl hX
  have hx := cx.1.1
  have hb := cx.1.2.1
  unfold f_X12_change_b34 at hX
  refine lv_aload_n hx hb dX12_change_34 rfl (lv_at hl 0 rfl) ?_
  refine lv_iconst (v := 2) hx hb dX12_change_35 (by decide) ?_
  refine mh_callVI cx wd [.int (2 : Int32)] (rfl : vwCl[12]? = some (RX12, TX12, 38)) yw_X12_fail vw_X12_122 rfl hl.1 rfl (Nat.le_of_ble_eq_true rfl) dX12_change_36 ⟨Nat.le_of_ble_eq_true rfl, Nat.le_of_ble_eq_true rfl⟩ ⟨Nat.le_refl _, Nat.le_refl _⟩ (fun _ _ q => c_X12_fail q) hX (fun v4 h3 H locs wd hX => ?_)
  exact mh_iret cx wd hr hX dX12_change_39
set_option maxRecDepth 100000 in
set_option maxHeartbeats 4000000 in
theorem w_X12_change_b90 {p : Program} {l : Launch} {e : Env} {s : State} {m : MethodId} {args : Array Value} {below : List Frame} {meth : Method} {c : Code} {D : va_G} {ks : Nat → ClassId} {L : List Nat} {r : Int32} {h' : mh_H} (cx : mh_C p m c cX12_change 5 s args RX12 meth D ks (mh_A L s.heap.size)) (hr : meth.sig.returnType = (some .int)) :
    ∀ (t0 : Int32) (h : mh_H) (H : Heap) (locs : List Loc) (ls : Array Slot), mh_W D ks L (mh_A L s.heap.size) s.heap h H locs → lv_has ls 5 [] → f_X12_change_b90 t0 h = some (r, h') → W p l e (mh_rm 3) s m args below meth c H locs 0 0 (MQ below (mh_Qi D ks L s.heap.size r h') args s 0 0 (mh_A L s.heap.size)) (F0 m 90 ls [.int t0]) := by
  intro t0 h H locs ls wd hl hX
  have hx := cx.1.1
  have hb := cx.1.2.1
  unfold f_X12_change_b90 at hX
  exact mh_iret cx wd hr hX dX12_change_90
set_option maxRecDepth 100000 in
set_option maxHeartbeats 4000000 in
theorem w_X12_change_e {p : Program} {l : Launch} {e : Env} {s : State} {m : MethodId} {args : Array Value} {below : List Frame} {meth : Method} {c : Code} {D : va_G} {ks : Nat → ClassId} {L : List Nat} {r : Int32} {h' : mh_H} (cx : mh_C p m c cX12_change 5 s args RX12 meth D ks (mh_A L s.heap.size)) (hr : meth.sig.returnType = (some .int)) :
    ∀ (o0 : Nat) (x1 : Int32) (x2 : Int32) (x3 : Int32) (h : mh_H) (H : Heap) (locs : List Loc) (ls : Array Slot), mh_W D ks L (mh_A L s.heap.size) s.heap h H locs → lv_has ls 5 [(0, .ref o0), (1, .int x1), (2, .int x2), (3, .int x3)] → f_X12_change_e o0 x1 x2 x3 h = some (r, h') → W p l e (mh_rm 3) s m args below meth c H locs 0 0 (MQ below (mh_Qi D ks L s.heap.size r h') args s 0 0 (mh_A L s.heap.size)) (F0 m 0 ls []) := by
  intro o0 x1 x2 x3 h H locs ls wd hl hX
  have hx := cx.1.1
  have hb := cx.1.2.1
  unfold f_X12_change_e at hX
  refine lv_aload_n hx hb dX12_change_0 rfl (lv_at hl 0 rfl) ?_
  refine lv_iconst (v := 0) hx hb dX12_change_1 (by decide) ?_
  refine mh_putI cx wd fp_X12_96 dX12_change_2 hX (fun h5 H locs wd hX => ?_)
  refine lv_iload_n hx hb dX12_change_5 rfl (lv_at hl 1 rfl) ?_
  refine mh_callSI cx wd [.int x1] yw_X12_isMint sw_X12_111 rfl hl.1 rfl (Nat.le_of_ble_eq_true rfl) dX12_change_6 ⟨Nat.le_of_ble_eq_true rfl, Nat.le_of_ble_eq_true rfl⟩ ⟨Nat.le_refl _, Nat.le_refl _⟩ (fun _ _ q => c_X12_isMint q) hX (fun v7 h6 H locs wd hX => ?_)
  refine lv_if_eq (tgt := 19) hx hb dX12_change_9 rfl (fun hc => (fun hX => ?_) ((mh_if hX).1 hc)) (fun hc => (fun hX => ?_) ((mh_if hX).2 hc))
  · exact w_X12_change_b19 cx hr _ h6 _ _ ls wd (lv_sub hl [0] rfl) hX
  · refine lv_iload_n hx hb dX12_change_12 rfl (lv_at hl 2 rfl) ?_
    refine mh_callSI cx wd [.int x2] yw_X12_isMint sw_X12_111 rfl hl.1 rfl (Nat.le_of_ble_eq_true rfl) dX12_change_13 ⟨Nat.le_of_ble_eq_true rfl, Nat.le_of_ble_eq_true rfl⟩ ⟨Nat.le_refl _, Nat.le_refl _⟩ (fun _ _ q => c_X12_isMint q) hX (fun v9 h8 H locs wd hX => ?_)
    refine lv_if_ne (tgt := 25) hx hb dX12_change_16 rfl (fun hc => (fun hX => ?_) ((mh_if hX).2 hc)) (fun hc => (fun hX => ?_) ((mh_if hX).1 hc))
    · refine lv_iload_n hx hb dX12_change_25 rfl (lv_at hl 3 rfl) ?_
      refine lv_if_lt (tgt := 34) hx hb dX12_change_26 rfl (fun hc => (fun hX => ?_) ((mh_if hX).1 hc)) (fun hc => (fun hX => ?_) ((mh_if hX).2 hc))
      · exact w_X12_change_b34 cx hr _ h8 _ _ ls wd (lv_sub hl [0] rfl) hX
      · refine lv_iload_n hx hb dX12_change_29 rfl (lv_at hl 1 rfl) ?_
        refine lv_iload_n hx hb dX12_change_30 rfl (lv_at hl 2 rfl) ?_
        refine lv_icmp_ne (tgt := 40) hx hb dX12_change_31 rfl (fun hc => (fun hX => ?_) ((mh_if hX).2 hc)) (fun hc => (fun hX => ?_) ((mh_if hX).1 hc))
        · refine lv_aload_n hx hb dX12_change_40 rfl (lv_at hl 0 rfl) ?_
          refine lv_iload_n hx hb dX12_change_41 rfl (lv_at hl 1 rfl) ?_
          refine lv_aload_n hx hb dX12_change_42 rfl (lv_at hl 0 rfl) ?_
          refine mh_getR cx wd fl_X12_72 dX12_change_43 hX (fun a10 hX => ?_)
          refine mh_callVV cx wd [.int x1, .ref a10] (rfl : vwCl[12]? = some (RX12, TX12, 38)) yw_X12_fillTable vw_X12_268 rfl hl.1 rfl (Nat.le_of_ble_eq_true rfl) dX12_change_46 ⟨Nat.le_of_ble_eq_true rfl, Nat.le_of_ble_eq_true rfl⟩ ⟨Nat.le_refl _, Nat.le_refl _⟩ (fun _ q => c_X12_fillTable q) hX (fun h11 H locs wd hX => ?_)
          refine lv_aload_n hx hb dX12_change_49 rfl (lv_at hl 0 rfl) ?_
          refine lv_iload_n hx hb dX12_change_50 rfl (lv_at hl 2 rfl) ?_
          refine lv_aload_n hx hb dX12_change_51 rfl (lv_at hl 0 rfl) ?_
          refine mh_getR cx wd fl_X12_75 dX12_change_52 hX (fun a12 hX => ?_)
          refine mh_callVV cx wd [.int x2, .ref a12] (rfl : vwCl[12]? = some (RX12, TX12, 38)) yw_X12_fillTable vw_X12_268 rfl hl.1 rfl (Nat.le_of_ble_eq_true rfl) dX12_change_55 ⟨Nat.le_of_ble_eq_true rfl, Nat.le_of_ble_eq_true rfl⟩ ⟨Nat.le_refl _, Nat.le_refl _⟩ (fun _ q => c_X12_fillTable q) hX (fun h13 H locs wd hX => ?_)
          refine lv_aload_n hx hb dX12_change_58 rfl (lv_at hl 0 rfl) ?_
          refine lv_aload_n hx hb dX12_change_59 rfl (lv_at hl 0 rfl) ?_
          refine mh_getR cx wd fl_X12_9 dX12_change_60 hX (fun a14 hX => ?_)
          refine lv_iload_n hx hb dX12_change_63 rfl (lv_at hl 1 rfl) ?_
          refine mh_callSI cx wd [.int x1] yw_X12_purseAt sw_X12_260 rfl hl.1 rfl (Nat.le_of_ble_eq_true rfl) dX12_change_64 ⟨Nat.le_of_ble_eq_true rfl, Nat.le_of_ble_eq_true rfl⟩ ⟨Nat.le_refl _, Nat.le_refl _⟩ (fun _ _ q => c_X12_purseAt q) hX (fun v16 h15 H locs wd hX => ?_)
          refine mh_iald cx wd dX12_change_67 hX (fun v17 hX => ?_)
          refine lv_iload_n hx hb dX12_change_68 rfl (lv_at hl 2 rfl) ?_
          refine lv_iload_n hx hb dX12_change_69 rfl (lv_at hl 3 rfl) ?_
          refine lv_i2l hx hb dX12_change_70 rfl ?_
          refine lv_iconst (v := 0) hx hb dX12_change_71 (by decide) ?_
          refine mh_callVI cx wd [.int v17, .int x2, .long ((x3).toInt64), .int (0 : Int32)] (rfl : vwCl[12]? = some (RX12, TX12, 38)) yw_X12_least vw_X12_274 rfl hl.1 rfl (Nat.le_of_ble_eq_true rfl) dX12_change_72 ⟨Nat.le_of_ble_eq_true rfl, Nat.le_of_ble_eq_true rfl⟩ ⟨Nat.le_refl _, Nat.le_refl _⟩ (fun _ _ q => c_X12_least q) hX (fun v19 h18 H locs wd hX => ?_)
          refine lv_istore (lv' := [(4, .int v19), (0, .ref o0), (1, .int x1), (2, .int x2), (3, .int x3)]) hx hb dX12_change_75 hl (Nat.le_of_ble_eq_true rfl) rfl (fun ls hl => ?_)
          refine lv_iload hx hb dX12_change_77 (lv_at hl 0 rfl) ?_
          refine mh_ldc cx kc_X12_126 dX12_change_79 ?_
          refine lv_icmp_lt (tgt := 88) hx hb dX12_change_81 rfl (fun hc => (fun hX => ?_) ((mh_if hX).1 hc)) (fun hc => (fun hX => ?_) ((mh_if hX).2 hc))
          · refine lv_iload hx hb dX12_change_88 (lv_at hl 0 rfl) ?_
            exact w_X12_change_b90 cx hr _ h18 _ _ ls wd (lv_sub hl [] rfl) hX
          · refine lv_iconst (v := (-1)) hx hb dX12_change_84 (by decide) ?_
            refine lv_goto (tgt := 90) hx hb dX12_change_85 rfl ?_
            exact w_X12_change_b90 cx hr _ h18 _ _ ls wd (lv_sub hl [] rfl) hX
        · exact w_X12_change_b34 cx hr _ h8 _ _ ls wd (lv_sub hl [0] rfl) hX
    · exact w_X12_change_b19 cx hr _ h8 _ _ ls wd (lv_sub hl [0] rfl) hX
set_option maxRecDepth 100000 in
theorem c_X12_change {l : Launch} {L : List Nat} {h h' : mh_H} {r : Int32} {o0 : Nat} {x1 : Int32} {x2 : Int32} {x3 : Int32} (hX : f_X12_change_e o0 x1 x2 x3 h = some (r, h')) : mh_MI l yX12_change (Cond.code yX12_change cX12_change 5 (some .int) :: mh_TB) (mh_rm 3) [.ref o0, .int x1, .int x2, .int x3] L h r h' :=
  mh_of (mc := 0) (ms := 0) (Qc := fun D ks sz => mh_Qi D ks L sz r h') (plainFor_of_name (by decide)) (Nat.le_of_ble_eq_true rfl) (fun p e s m below meth c D ks ls hr cx wd hl => by
    have hl : lv_has ls 5 [(0, .ref o0), (1, .int x1), (2, .int x2), (3, .int x3)] := hl
    exact w_X12_change_e cx hr o0 x1 x2 x3 h _ _ ls wd hl hX)
