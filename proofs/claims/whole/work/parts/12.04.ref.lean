def f_X12_gather_b22 (k2 : Nat → Int32 → mh_H → Option (Int32 × mh_H)) (o0 : Nat) (x1 : Int32) (t0 : Nat) (t1 : Int32) (t2 : Int32) (h : mh_H) : Option (Int32 × mh_H) :=
  (mh_sZ h t0 t1 t2).bind fun h1 =>
  mh_nm (x1 + Int32.ofInt (1)) fun v2 =>
  k2 o0 v2 h1
def f_X12_gather_b76 (h : mh_H) : Option (Int32 × mh_H) :=
  mh_rz (0 : Int32) h
def f_X12_gather_b143 (k36 : Nat → Int32 → mh_H → Option (Int32 × mh_H)) (o0 : Nat) (x1 : Int32) (h : mh_H) : Option (Int32 × mh_H) :=
  mh_nm (x1 + Int32.ofInt (1)) fun v3 =>
  k36 o0 v3 h
def f_X12_gather_b136 (k100 : Nat → Int32 → Int32 → mh_H → Option (Int32 × mh_H)) (o0 : Nat) (x1 : Int32) (x2 : Int32) (t0 : Nat) (t1 : Int32) (t2 : Int32) (h : mh_H) : Option (Int32 × mh_H) :=
  (mh_sZ h t0 t1 t2).bind fun h4 =>
  mh_nm (x2 + Int32.ofInt (1)) fun v5 =>
  k100 o0 x1 v5 h4
def f_X12_gather_b131 (k136 : Nat → Int32 → Int32 → Nat → Int32 → Int32 → mh_H → Option (Int32 × mh_H)) (o0 : Nat) (x1 : Int32) (x2 : Int32) (t0 : Nat) (t1 : Int32) (h : mh_H) : Option (Int32 × mh_H) :=
  k136 o0 x1 x2 t0 t1 (1 : Int32) h
def f_X12_gather_b100 (k143 : Nat → Int32 → mh_H → Option (Int32 × mh_H)) : Nat → Nat → Int32 → Int32 → mh_H → Option (Int32 × mh_H)
  | 0, _, _, _, _ => none
  | n + 1, o0, x1, x2, h =>
    if (200000 : Int32) < x2 then (
    k143 o0 x1 h) else
    (mh_gR h o0 12 10).bind fun a6 =>
    (mh_gR h o0 12 10).bind fun a7 =>
    (mh_aI h a7 2 x2).bind fun v8 =>
    if v8 = 0 then (
    (mh_gR h o0 12 10).bind fun a9 =>
    (mh_aI h a9 2 (x2 - x1)).bind fun v10 =>
    if v10 = 0 then (
    f_X12_gather_b136 (f_X12_gather_b100 k143 n) o0 x1 x2 a6 x2 (0 : Int32) h) else
    f_X12_gather_b131 (f_X12_gather_b136 (f_X12_gather_b100 k143 n)) o0 x1 x2 a6 x2 h) else
    f_X12_gather_b131 (f_X12_gather_b136 (f_X12_gather_b100 k143 n)) o0 x1 x2 a6 x2 h
def f_X12_gather_b149 (h : mh_H) : Option (Int32 × mh_H) :=
  mh_rz (1 : Int32) h
def f_X12_gather_b36 : Nat → Nat → Int32 → mh_H → Option (Int32 × mh_H)
  | 0, _, _, _ => none
  | n + 1, o0, x1, h =>
    if (200000 : Int32) < x1 then (
    f_X12_gather_b149 h) else
    (mh_gR h o0 12 11).bind fun a11 =>
    (mh_aI h a11 2 x1).bind fun v12 =>
    (mh_gR h o0 12 10).bind fun a13 =>
    (mh_aI h a13 2 x1).bind fun v14 =>
    if v12 = v14 then (
    f_X12_gather_b143 (f_X12_gather_b36 n) o0 x1 h) else
    if (300 : Int32) < x1 then (
    f_X12_gather_b76 h) else
    (mh_gI h o0 12 14).bind fun v15 =>
    if v15 = (12 : Int32) then (
    f_X12_gather_b76 h) else
    (mh_gR h o0 12 13).bind fun a16 =>
    (mh_gI h o0 12 14).bind fun v17 =>
    (mh_sI h a16 v17 x1).bind fun h18 =>
    (mh_gI h18 o0 12 14).bind fun v19 =>
    (mh_pI h18 o0 12 14 (v19 + (1 : Int32))).bind fun h20 =>
    f_X12_gather_b100 (f_X12_gather_b143 (f_X12_gather_b36 n)) mh_fu o0 x1 x1 h20
def f_X12_gather_b29 (o0 : Nat) (h : mh_H) : Option (Int32 × mh_H) :=
  (mh_pI h o0 12 14 (0 : Int32)).bind fun h21 =>
  mh_nm (1 : Int32) fun v22 =>
  f_X12_gather_b36 mh_fu o0 v22 h21
def f_X12_gather_b2 : Nat → Nat → Int32 → mh_H → Option (Int32 × mh_H)
  | 0, _, _, _ => none
  | n + 1, o0, x1, h =>
    if (200000 : Int32) < x1 then (
    f_X12_gather_b29 o0 h) else
    (mh_gR h o0 12 10).bind fun a23 =>
    if x1 = 0 then (
    f_X12_gather_b22 (f_X12_gather_b2 n) o0 x1 a23 x1 (1 : Int32) h) else
    f_X12_gather_b22 (f_X12_gather_b2 n) o0 x1 a23 x1 (0 : Int32) h
def f_X12_gather_e (o0 : Nat) (h : mh_H) : Option (Int32 × mh_H) :=
  mh_nm (0 : Int32) fun v24 =>
  f_X12_gather_b2 mh_fu o0 v24 h
set_option maxRecDepth 100000 in
set_option maxHeartbeats 4000000 in
theorem w_X12_gather_b22 {p : Program} {l : Launch} {e : Env} {s : State} {m : MethodId} {args : Array Value} {below : List Frame} {meth : Method} {c : Code} {D : va_G} {ks : Nat → ClassId} {L : List Nat} {r : Int32} {h' : mh_H} (k2 : Nat → Int32 → mh_H → Option (Int32 × mh_H)) (cx : mh_C p m c cX12_gather 3 s args RX12 meth D ks (mh_A L s.heap.size)) (hr : meth.sig.returnType = (some .boolean))
    (hk2 : ∀ (o0 : Nat) (x1 : Int32) (h : mh_H) (H : Heap) (locs : List Loc) (ls : Array Slot), mh_W D ks L (mh_A L s.heap.size) s.heap h H locs → lv_has ls 3 [(0, .ref o0), (1, .int x1)] → k2 o0 x1 h = some (r, h') → W p l e (mh_rm 0) s m args below meth c H locs 0 0 (MQ below (mh_Qi D ks L s.heap.size r h') args s 0 0 (mh_A L s.heap.size)) (F0 m 2 ls [])) :
    ∀ (o0 : Nat) (x1 : Int32) (t0 : Nat) (t1 : Int32) (t2 : Int32) (h : mh_H) (H : Heap) (locs : List Loc) (ls : Array Slot), mh_W D ks L (mh_A L s.heap.size) s.heap h H locs → lv_has ls 3 [(0, .ref o0), (1, .int x1)] → f_X12_gather_b22 k2 o0 x1 t0 t1 t2 h = some (r, h') → W p l e (mh_rm 0) s m args below meth c H locs 0 0 (MQ below (mh_Qi D ks L s.heap.size r h') args s 0 0 (mh_A L s.heap.size)) (F0 m 22 ls [.int t2, .int t1, .ref t0]) := by
  intro o0 x1 t0 t1 t2 h H locs ls wd hl hX
  have hx := cx.1.1
  have hb := cx.1.2.1
  unfold f_X12_gather_b22 at hX
  refine mh_zast cx wd dX12_gather_22 hX (fun h1 H locs wd hX => ?_)
  obtain ⟨v2, ev2, hX⟩ := mh_nmx hX
  refine lv_iinc (k := 1) (v := v2) (lv' := [(1, .int v2), (0, .ref o0)]) hx hb dX12_gather_23 hl rfl ev2 (Nat.le_of_ble_eq_true rfl) rfl (fun ls hl => ?_)
  refine lv_goto (tgt := 2) hx hb dX12_gather_26 rfl ?_
  exact hk2 _ _ h1 _ _ ls wd (lv_sub hl [1, 0] rfl) hX
set_option maxRecDepth 100000 in
set_option maxHeartbeats 4000000 in
theorem w_X12_gather_b76 {p : Program} {l : Launch} {e : Env} {s : State} {m : MethodId} {args : Array Value} {below : List Frame} {meth : Method} {c : Code} {D : va_G} {ks : Nat → ClassId} {L : List Nat} {r : Int32} {h' : mh_H} (cx : mh_C p m c cX12_gather 3 s args RX12 meth D ks (mh_A L s.heap.size)) (hr : meth.sig.returnType = (some .boolean)) :
    ∀ (h : mh_H) (H : Heap) (locs : List Loc) (ls : Array Slot), mh_W D ks L (mh_A L s.heap.size) s.heap h H locs → lv_has ls 3 [] → f_X12_gather_b76  h = some (r, h') → W p l e (mh_rm 0) s m args below meth c H locs 0 0 (MQ below (mh_Qi D ks L s.heap.size r h') args s 0 0 (mh_A L s.heap.size)) (F0 m 76 ls []) := by
  intro  h H locs ls wd hl hX
  have hx := cx.1.1
  have hb := cx.1.2.1
  unfold f_X12_gather_b76 at hX
  refine lv_iconst (v := 0) hx hb dX12_gather_76 (by decide) ?_
  exact mh_zret cx wd hr hX dX12_gather_77
set_option maxRecDepth 100000 in
set_option maxHeartbeats 4000000 in
theorem w_X12_gather_b143 {p : Program} {l : Launch} {e : Env} {s : State} {m : MethodId} {args : Array Value} {below : List Frame} {meth : Method} {c : Code} {D : va_G} {ks : Nat → ClassId} {L : List Nat} {r : Int32} {h' : mh_H} (k36 : Nat → Int32 → mh_H → Option (Int32 × mh_H)) (cx : mh_C p m c cX12_gather 3 s args RX12 meth D ks (mh_A L s.heap.size)) (hr : meth.sig.returnType = (some .boolean))
    (hk36 : ∀ (o0 : Nat) (x1 : Int32) (h : mh_H) (H : Heap) (locs : List Loc) (ls : Array Slot), mh_W D ks L (mh_A L s.heap.size) s.heap h H locs → lv_has ls 3 [(0, .ref o0), (1, .int x1)] → k36 o0 x1 h = some (r, h') → W p l e (mh_rm 0) s m args below meth c H locs 0 0 (MQ below (mh_Qi D ks L s.heap.size r h') args s 0 0 (mh_A L s.heap.size)) (F0 m 36 ls [])) :
    ∀ (o0 : Nat) (x1 : Int32) (h : mh_H) (H : Heap) (locs : List Loc) (ls : Array Slot), mh_W D ks L (mh_A L s.heap.size) s.heap h H locs → lv_has ls 3 [(0, .ref o0), (1, .int x1)] → f_X12_gather_b143 k36 o0 x1 h = some (r, h') → W p l e (mh_rm 0) s m args below meth c H locs 0 0 (MQ below (mh_Qi D ks L s.heap.size r h') args s 0 0 (mh_A L s.heap.size)) (F0 m 143 ls []) := by
  intro o0 x1 h H locs ls wd hl hX
  have hx := cx.1.1
  have hb := cx.1.2.1
  unfold f_X12_gather_b143 at hX
  obtain ⟨v3, ev3, hX⟩ := mh_nmx hX
  refine lv_iinc (k := 1) (v := v3) (lv' := [(1, .int v3), (0, .ref o0)]) hx hb dX12_gather_143 hl rfl ev3 (Nat.le_of_ble_eq_true rfl) rfl (fun ls hl => ?_)
  refine lv_goto (tgt := 36) hx hb dX12_gather_146 rfl ?_
  exact hk36 _ _ h _ _ ls wd (lv_sub hl [1, 0] rfl) hX
set_option maxRecDepth 100000 in
set_option maxHeartbeats 4000000 in
theorem w_X12_gather_b136 {p : Program} {l : Launch} {e : Env} {s : State} {m : MethodId} {args : Array Value} {below : List Frame} {meth : Method} {c : Code} {D : va_G} {ks : Nat → ClassId} {L : List Nat} {r : Int32} {h' : mh_H} (k100 : Nat → Int32 → Int32 → mh_H → Option (Int32 × mh_H)) (cx : mh_C p m c cX12_gather 3 s args RX12 meth D ks (mh_A L s.heap.size)) (hr : meth.sig.returnType = (some .boolean))
    (hk100 : ∀ (o0 : Nat) (x1 : Int32) (x2 : Int32) (h : mh_H) (H : Heap) (locs : List Loc) (ls : Array Slot), mh_W D ks L (mh_A L s.heap.size) s.heap h H locs → lv_has ls 3 [(0, .ref o0), (1, .int x1), (2, .int x2)] → k100 o0 x1 x2 h = some (r, h') → W p l e (mh_rm 0) s m args below meth c H locs 0 0 (MQ below (mh_Qi D ks L s.heap.size r h') args s 0 0 (mh_A L s.heap.size)) (F0 m 100 ls [])) :
    ∀ (o0 : Nat) (x1 : Int32) (x2 : Int32) (t0 : Nat) (t1 : Int32) (t2 : Int32) (h : mh_H) (H : Heap) (locs : List Loc) (ls : Array Slot), mh_W D ks L (mh_A L s.heap.size) s.heap h H locs → lv_has ls 3 [(0, .ref o0), (1, .int x1), (2, .int x2)] → f_X12_gather_b136 k100 o0 x1 x2 t0 t1 t2 h = some (r, h') → W p l e (mh_rm 0) s m args below meth c H locs 0 0 (MQ below (mh_Qi D ks L s.heap.size r h') args s 0 0 (mh_A L s.heap.size)) (F0 m 136 ls [.int t2, .int t1, .ref t0]) := by
  intro o0 x1 x2 t0 t1 t2 h H locs ls wd hl hX
  have hx := cx.1.1
  have hb := cx.1.2.1
  unfold f_X12_gather_b136 at hX
  refine mh_zast cx wd dX12_gather_136 hX (fun h4 H locs wd hX => ?_)
  obtain ⟨v5, ev5, hX⟩ := mh_nmx hX
  refine lv_iinc (k := 2) (v := v5) (lv' := [(2, .int v5), (0, .ref o0), (1, .int x1)]) hx hb dX12_gather_137 hl rfl ev5 (Nat.le_of_ble_eq_true rfl) rfl (fun ls hl => ?_)
  refine lv_goto (tgt := 100) hx hb dX12_gather_140 rfl ?_
  exact hk100 _ _ _ h4 _ _ ls wd (lv_sub hl [1, 2, 0] rfl) hX
set_option maxRecDepth 100000 in
set_option maxHeartbeats 4000000 in
theorem w_X12_gather_b131 {p : Program} {l : Launch} {e : Env} {s : State} {m : MethodId} {args : Array Value} {below : List Frame} {meth : Method} {c : Code} {D : va_G} {ks : Nat → ClassId} {L : List Nat} {r : Int32} {h' : mh_H} (k136 : Nat → Int32 → Int32 → Nat → Int32 → Int32 → mh_H → Option (Int32 × mh_H)) (cx : mh_C p m c cX12_gather 3 s args RX12 meth D ks (mh_A L s.heap.size)) (hr : meth.sig.returnType = (some .boolean))
    (hk136 : ∀ (o0 : Nat) (x1 : Int32) (x2 : Int32) (t0 : Nat) (t1 : Int32) (t2 : Int32) (h : mh_H) (H : Heap) (locs : List Loc) (ls : Array Slot), mh_W D ks L (mh_A L s.heap.size) s.heap h H locs → lv_has ls 3 [(0, .ref o0), (1, .int x1), (2, .int x2)] → k136 o0 x1 x2 t0 t1 t2 h = some (r, h') → W p l e (mh_rm 0) s m args below meth c H locs 0 0 (MQ below (mh_Qi D ks L s.heap.size r h') args s 0 0 (mh_A L s.heap.size)) (F0 m 136 ls [.int t2, .int t1, .ref t0])) :
    ∀ (o0 : Nat) (x1 : Int32) (x2 : Int32) (t0 : Nat) (t1 : Int32) (h : mh_H) (H : Heap) (locs : List Loc) (ls : Array Slot), mh_W D ks L (mh_A L s.heap.size) s.heap h H locs → lv_has ls 3 [(0, .ref o0), (1, .int x1), (2, .int x2)] → f_X12_gather_b131 k136 o0 x1 x2 t0 t1 h = some (r, h') → W p l e (mh_rm 0) s m args below meth c H locs 0 0 (MQ below (mh_Qi D ks L s.heap.size r h') args s 0 0 (mh_A L s.heap.size)) (F0 m 131 ls [.int t1, .ref t0]) := by
  intro o0 x1 x2 t0 t1 h H locs ls wd hl hX
  have hx := cx.1.1
  have hb := cx.1.2.1
  unfold f_X12_gather_b131 at hX
  refine lv_iconst (v := 1) hx hb dX12_gather_131 (by decide) ?_
  refine lv_goto (tgt := 136) hx hb dX12_gather_132 rfl ?_
  exact hk136 _ _ _ _ _ _ h _ _ ls wd (lv_sub hl [0, 1, 2] rfl) hX
set_option maxRecDepth 100000 in
set_option maxHeartbeats 4000000 in
theorem w_X12_gather_b100 {p : Program} {l : Launch} {e : Env} {s : State} {m : MethodId} {args : Array Value} {below : List Frame} {meth : Method} {c : Code} {D : va_G} {ks : Nat → ClassId} {L : List Nat} {r : Int32} {h' : mh_H} (k143 : Nat → Int32 → mh_H → Option (Int32 × mh_H)) (cx : mh_C p m c cX12_gather 3 s args RX12 meth D ks (mh_A L s.heap.size)) (hr : meth.sig.returnType = (some .boolean))
    (hk143 : ∀ (o0 : Nat) (x1 : Int32) (h : mh_H) (H : Heap) (locs : List Loc) (ls : Array Slot), mh_W D ks L (mh_A L s.heap.size) s.heap h H locs → lv_has ls 3 [(0, .ref o0), (1, .int x1)] → k143 o0 x1 h = some (r, h') → W p l e (mh_rm 0) s m args below meth c H locs 0 0 (MQ below (mh_Qi D ks L s.heap.size r h') args s 0 0 (mh_A L s.heap.size)) (F0 m 143 ls [])) :
    ∀ n : Nat, ∀ (o0 : Nat) (x1 : Int32) (x2 : Int32) (h : mh_H) (H : Heap) (locs : List Loc) (ls : Array Slot), mh_W D ks L (mh_A L s.heap.size) s.heap h H locs → lv_has ls 3 [(0, .ref o0), (1, .int x1), (2, .int x2)] → f_X12_gather_b100 k143 n o0 x1 x2 h = some (r, h') → W p l e (mh_rm 0) s m args below meth c H locs 0 0 (MQ below (mh_Qi D ks L s.heap.size r h') args s 0 0 (mh_A L s.heap.size)) (F0 m 100 ls []) := by
  intro n
  induction n with
  | zero =>
    intro o0 x1 x2 h H locs ls wd hl hX
    cases hX
  | succ n ih =>
    intro o0 x1 x2 h H locs ls wd hl hX
    have hx := cx.1.1
    have hb := cx.1.2.1
    rw [f_X12_gather_b100] at hX
    refine lv_iload_n hx hb dX12_gather_100 rfl (lv_at hl 2 rfl) ?_
    refine mh_ldc cx kc_X12_193 dX12_gather_101 ?_
    refine lv_icmp_gt (tgt := 143) hx hb dX12_gather_103 rfl (fun hc => (fun hX => ?_) ((mh_if hX).1 hc)) (fun hc => (fun hX => ?_) ((mh_if hX).2 hc))
    · exact hk143 _ _ h _ _ ls wd (lv_sub hl [0, 1] rfl) hX
    · refine lv_aload_n hx hb dX12_gather_106 rfl (lv_at hl 0 rfl) ?_
      refine mh_getR cx wd fl_X12_34 dX12_gather_107 hX (fun a6 hX => ?_)
      refine lv_iload_n hx hb dX12_gather_110 rfl (lv_at hl 2 rfl) ?_
      refine lv_aload_n hx hb dX12_gather_111 rfl (lv_at hl 0 rfl) ?_
      refine mh_getR cx wd fl_X12_34 dX12_gather_112 hX (fun a7 hX => ?_)
      refine lv_iload_n hx hb dX12_gather_115 rfl (lv_at hl 2 rfl) ?_
      refine mh_zald cx wd dX12_gather_116 hX (fun v8 hX => ?_)
      refine lv_if_ne (tgt := 131) hx hb dX12_gather_117 rfl (fun hc => (fun hX => ?_) ((mh_if hX).2 hc)) (fun hc => (fun hX => ?_) ((mh_if hX).1 hc))
      · exact w_X12_gather_b131 (f_X12_gather_b136 (f_X12_gather_b100 k143 n)) cx hr (w_X12_gather_b136 (f_X12_gather_b100 k143 n) cx hr ih) _ _ _ _ _ h _ _ ls wd (lv_sub hl [0, 1, 2] rfl) hX
      · refine lv_aload_n hx hb dX12_gather_120 rfl (lv_at hl 0 rfl) ?_
        refine mh_getR cx wd fl_X12_34 dX12_gather_121 hX (fun a9 hX => ?_)
        refine lv_iload_n hx hb dX12_gather_124 rfl (lv_at hl 2 rfl) ?_
        refine lv_iload_n hx hb dX12_gather_125 rfl (lv_at hl 1 rfl) ?_
        refine lv_isub hx hb dX12_gather_126 ?_
        refine mh_zald cx wd dX12_gather_127 hX (fun v10 hX => ?_)
        refine lv_if_eq (tgt := 135) hx hb dX12_gather_128 rfl (fun hc => (fun hX => ?_) ((mh_if hX).1 hc)) (fun hc => (fun hX => ?_) ((mh_if hX).2 hc))
        · refine lv_iconst (v := 0) hx hb dX12_gather_135 (by decide) ?_
          exact w_X12_gather_b136 (f_X12_gather_b100 k143 n) cx hr ih _ _ _ _ _ _ h _ _ ls wd (lv_sub hl [0, 1, 2] rfl) hX
        · exact w_X12_gather_b131 (f_X12_gather_b136 (f_X12_gather_b100 k143 n)) cx hr (w_X12_gather_b136 (f_X12_gather_b100 k143 n) cx hr ih) _ _ _ _ _ h _ _ ls wd (lv_sub hl [0, 1, 2] rfl) hX
set_option maxRecDepth 100000 in
set_option maxHeartbeats 4000000 in
theorem w_X12_gather_b149 {p : Program} {l : Launch} {e : Env} {s : State} {m : MethodId} {args : Array Value} {below : List Frame} {meth : Method} {c : Code} {D : va_G} {ks : Nat → ClassId} {L : List Nat} {r : Int32} {h' : mh_H} (cx : mh_C p m c cX12_gather 3 s args RX12 meth D ks (mh_A L s.heap.size)) (hr : meth.sig.returnType = (some .boolean)) :
    ∀ (h : mh_H) (H : Heap) (locs : List Loc) (ls : Array Slot), mh_W D ks L (mh_A L s.heap.size) s.heap h H locs → lv_has ls 3 [] → f_X12_gather_b149  h = some (r, h') → W p l e (mh_rm 0) s m args below meth c H locs 0 0 (MQ below (mh_Qi D ks L s.heap.size r h') args s 0 0 (mh_A L s.heap.size)) (F0 m 149 ls []) := by
  intro  h H locs ls wd hl hX
  have hx := cx.1.1
  have hb := cx.1.2.1
  unfold f_X12_gather_b149 at hX
  refine lv_iconst (v := 1) hx hb dX12_gather_149 (by decide) ?_
  exact mh_zret cx wd hr hX dX12_gather_150
set_option maxRecDepth 100000 in
set_option maxHeartbeats 4000000 in
theorem w_X12_gather_b36 {p : Program} {l : Launch} {e : Env} {s : State} {m : MethodId} {args : Array Value} {below : List Frame} {meth : Method} {c : Code} {D : va_G} {ks : Nat → ClassId} {L : List Nat} {r : Int32} {h' : mh_H} (cx : mh_C p m c cX12_gather 3 s args RX12 meth D ks (mh_A L s.heap.size)) (hr : meth.sig.returnType = (some .boolean)) :
    ∀ n : Nat, ∀ (o0 : Nat) (x1 : Int32) (h : mh_H) (H : Heap) (locs : List Loc) (ls : Array Slot), mh_W D ks L (mh_A L s.heap.size) s.heap h H locs → lv_has ls 3 [(0, .ref o0), (1, .int x1)] → f_X12_gather_b36 n o0 x1 h = some (r, h') → W p l e (mh_rm 0) s m args below meth c H locs 0 0 (MQ below (mh_Qi D ks L s.heap.size r h') args s 0 0 (mh_A L s.heap.size)) (F0 m 36 ls []) := by
  intro n
  induction n with
  | zero =>
    intro o0 x1 h H locs ls wd hl hX
    cases hX
  | succ n ih =>
    intro o0 x1 h H locs ls wd hl hX
    have hx := cx.1.1
    have hb := cx.1.2.1
    rw [f_X12_gather_b36] at hX
    refine lv_iload_n hx hb dX12_gather_36 rfl (lv_at hl 1 rfl) ?_
    refine mh_ldc cx kc_X12_193 dX12_gather_37 ?_
    refine lv_icmp_gt (tgt := 149) hx hb dX12_gather_39 rfl (fun hc => (fun hX => ?_) ((mh_if hX).1 hc)) (fun hc => (fun hX => ?_) ((mh_if hX).2 hc))
    · exact w_X12_gather_b149 cx hr  h _ _ ls wd (lv_sub hl [] rfl) hX
    · refine lv_aload_n hx hb dX12_gather_42 rfl (lv_at hl 0 rfl) ?_
      refine mh_getR cx wd fl_X12_37 dX12_gather_43 hX (fun a11 hX => ?_)
      refine lv_iload_n hx hb dX12_gather_46 rfl (lv_at hl 1 rfl) ?_
      refine mh_zald cx wd dX12_gather_47 hX (fun v12 hX => ?_)
      refine lv_aload_n hx hb dX12_gather_48 rfl (lv_at hl 0 rfl) ?_
      refine mh_getR cx wd fl_X12_34 dX12_gather_49 hX (fun a13 hX => ?_)
      refine lv_iload_n hx hb dX12_gather_52 rfl (lv_at hl 1 rfl) ?_
      refine mh_zald cx wd dX12_gather_53 hX (fun v14 hX => ?_)
      refine lv_icmp_ne (tgt := 60) hx hb dX12_gather_54 rfl (fun hc => (fun hX => ?_) ((mh_if hX).2 hc)) (fun hc => (fun hX => ?_) ((mh_if hX).1 hc))
      · refine lv_iload_n hx hb dX12_gather_60 rfl (lv_at hl 1 rfl) ?_
        refine lv_sipush (v := 300) hx hb dX12_gather_61 (by decide) ?_
        refine lv_icmp_gt (tgt := 76) hx hb dX12_gather_64 rfl (fun hc => (fun hX => ?_) ((mh_if hX).1 hc)) (fun hc => (fun hX => ?_) ((mh_if hX).2 hc))
        · exact w_X12_gather_b76 cx hr  h _ _ ls wd (lv_sub hl [] rfl) hX
        · refine lv_aload_n hx hb dX12_gather_67 rfl (lv_at hl 0 rfl) ?_
          refine mh_getI cx wd fl_X12_181 dX12_gather_68 hX (fun v15 hX => ?_)
          refine lv_bipush (v := 12) hx hb dX12_gather_71 (by decide) ?_
          refine lv_icmp_ne (tgt := 78) hx hb dX12_gather_73 rfl (fun hc => (fun hX => ?_) ((mh_if hX).2 hc)) (fun hc => (fun hX => ?_) ((mh_if hX).1 hc))
          · refine lv_aload_n hx hb dX12_gather_78 rfl (lv_at hl 0 rfl) ?_
            refine mh_getR cx wd fl_X12_45 dX12_gather_79 hX (fun a16 hX => ?_)
            refine lv_aload_n hx hb dX12_gather_82 rfl (lv_at hl 0 rfl) ?_
            refine mh_getI cx wd fl_X12_181 dX12_gather_83 hX (fun v17 hX => ?_)
            refine lv_iload_n hx hb dX12_gather_86 rfl (lv_at hl 1 rfl) ?_
            refine mh_iast cx wd dX12_gather_87 hX (fun h18 H locs wd hX => ?_)
            refine lv_aload_n hx hb dX12_gather_88 rfl (lv_at hl 0 rfl) ?_
            refine lv_dup hx hb dX12_gather_89 rfl ?_
            refine mh_getI cx wd fl_X12_181 dX12_gather_90 hX (fun v19 hX => ?_)
            refine lv_iconst (v := 1) hx hb dX12_gather_93 (by decide) ?_
            refine lv_iadd hx hb dX12_gather_94 ?_
            refine mh_putI cx wd fp_X12_181 dX12_gather_95 hX (fun h20 H locs wd hX => ?_)
            refine lv_iload_n hx hb dX12_gather_98 rfl (lv_at hl 1 rfl) ?_
            refine lv_istore_n (lv' := [(2, .int x1), (0, .ref o0), (1, .int x1)]) hx hb dX12_gather_99 rfl hl (Nat.le_of_ble_eq_true rfl) rfl (fun ls hl => ?_)
            exact w_X12_gather_b100 (f_X12_gather_b143 (f_X12_gather_b36 n)) cx hr (w_X12_gather_b143 (f_X12_gather_b36 n) cx hr ih) mh_fu _ _ _ h20 _ _ ls wd (lv_sub hl [1, 2, 0] rfl) hX
          · exact w_X12_gather_b76 cx hr  h _ _ ls wd (lv_sub hl [] rfl) hX
      · refine lv_goto (tgt := 143) hx hb dX12_gather_57 rfl ?_
        exact w_X12_gather_b143 (f_X12_gather_b36 n) cx hr ih _ _ h _ _ ls wd (lv_sub hl [0, 1] rfl) hX
set_option maxRecDepth 100000 in
set_option maxHeartbeats 4000000 in
theorem w_X12_gather_b29 {p : Program} {l : Launch} {e : Env} {s : State} {m : MethodId} {args : Array Value} {below : List Frame} {meth : Method} {c : Code} {D : va_G} {ks : Nat → ClassId} {L : List Nat} {r : Int32} {h' : mh_H} (cx : mh_C p m c cX12_gather 3 s args RX12 meth D ks (mh_A L s.heap.size)) (hr : meth.sig.returnType = (some .boolean)) :
    ∀ (o0 : Nat) (h : mh_H) (H : Heap) (locs : List Loc) (ls : Array Slot), mh_W D ks L (mh_A L s.heap.size) s.heap h H locs → lv_has ls 3 [(0, .ref o0)] → f_X12_gather_b29 o0 h = some (r, h') → W p l e (mh_rm 0) s m args below meth c H locs 0 0 (MQ below (mh_Qi D ks L s.heap.size r h') args s 0 0 (mh_A L s.heap.size)) (F0 m 29 ls []) := by
  intro o0 h H locs ls wd hl hX
  have hx := cx.1.1
  have hb := cx.1.2.1
  unfold f_X12_gather_b29 at hX
  refine lv_aload_n hx hb dX12_gather_29 rfl (lv_at hl 0 rfl) ?_
  refine lv_iconst (v := 0) hx hb dX12_gather_30 (by decide) ?_
  refine mh_putI cx wd fp_X12_181 dX12_gather_31 hX (fun h21 H locs wd hX => ?_)
  refine lv_iconst (v := 1) hx hb dX12_gather_34 (by decide) ?_
  refine mh_topi hX (fun v22 hX => ?_)
  refine lv_istore_n (lv' := [(1, .int v22), (0, .ref o0)]) hx hb dX12_gather_35 rfl hl (Nat.le_of_ble_eq_true rfl) rfl (fun ls hl => ?_)
  exact w_X12_gather_b36 cx hr mh_fu _ _ h21 _ _ ls wd (lv_sub hl [1, 0] rfl) hX
set_option maxRecDepth 100000 in
set_option maxHeartbeats 4000000 in
theorem w_X12_gather_b2 {p : Program} {l : Launch} {e : Env} {s : State} {m : MethodId} {args : Array Value} {below : List Frame} {meth : Method} {c : Code} {D : va_G} {ks : Nat → ClassId} {L : List Nat} {r : Int32} {h' : mh_H} (cx : mh_C p m c cX12_gather 3 s args RX12 meth D ks (mh_A L s.heap.size)) (hr : meth.sig.returnType = (some .boolean)) :
    ∀ n : Nat, ∀ (o0 : Nat) (x1 : Int32) (h : mh_H) (H : Heap) (locs : List Loc) (ls : Array Slot), mh_W D ks L (mh_A L s.heap.size) s.heap h H locs → lv_has ls 3 [(0, .ref o0), (1, .int x1)] → f_X12_gather_b2 n o0 x1 h = some (r, h') → W p l e (mh_rm 0) s m args below meth c H locs 0 0 (MQ below (mh_Qi D ks L s.heap.size r h') args s 0 0 (mh_A L s.heap.size)) (F0 m 2 ls []) := by
  intro n
  induction n with
  | zero =>
    intro o0 x1 h H locs ls wd hl hX
    cases hX
  | succ n ih =>
    intro o0 x1 h H locs ls wd hl hX
    have hx := cx.1.1
    have hb := cx.1.2.1
    rw [f_X12_gather_b2] at hX
    refine lv_iload_n hx hb dX12_gather_2 rfl (lv_at hl 1 rfl) ?_
    refine mh_ldc cx kc_X12_193 dX12_gather_3 ?_
    refine lv_icmp_gt (tgt := 29) hx hb dX12_gather_5 rfl (fun hc => (fun hX => ?_) ((mh_if hX).1 hc)) (fun hc => (fun hX => ?_) ((mh_if hX).2 hc))
    · exact w_X12_gather_b29 cx hr _ h _ _ ls wd (lv_sub hl [0] rfl) hX
    · refine lv_aload_n hx hb dX12_gather_8 rfl (lv_at hl 0 rfl) ?_
      refine mh_getR cx wd fl_X12_34 dX12_gather_9 hX (fun a23 hX => ?_)
      refine lv_iload_n hx hb dX12_gather_12 rfl (lv_at hl 1 rfl) ?_
      refine lv_iload_n hx hb dX12_gather_13 rfl (lv_at hl 1 rfl) ?_
      refine lv_if_ne (tgt := 21) hx hb dX12_gather_14 rfl (fun hc => (fun hX => ?_) ((mh_if hX).2 hc)) (fun hc => (fun hX => ?_) ((mh_if hX).1 hc))
      · refine lv_iconst (v := 0) hx hb dX12_gather_21 (by decide) ?_
        exact w_X12_gather_b22 (f_X12_gather_b2 n) cx hr ih _ _ _ _ _ h _ _ ls wd (lv_sub hl [0, 1] rfl) hX
      · refine lv_iconst (v := 1) hx hb dX12_gather_17 (by decide) ?_
        refine lv_goto (tgt := 22) hx hb dX12_gather_18 rfl ?_
        exact w_X12_gather_b22 (f_X12_gather_b2 n) cx hr ih _ _ _ _ _ h _ _ ls wd (lv_sub hl [0, 1] rfl) hX
set_option maxRecDepth 100000 in
set_option maxHeartbeats 4000000 in
theorem w_X12_gather_e {p : Program} {l : Launch} {e : Env} {s : State} {m : MethodId} {args : Array Value} {below : List Frame} {meth : Method} {c : Code} {D : va_G} {ks : Nat → ClassId} {L : List Nat} {r : Int32} {h' : mh_H} (cx : mh_C p m c cX12_gather 3 s args RX12 meth D ks (mh_A L s.heap.size)) (hr : meth.sig.returnType = (some .boolean)) :
    ∀ (o0 : Nat) (h : mh_H) (H : Heap) (locs : List Loc) (ls : Array Slot), mh_W D ks L (mh_A L s.heap.size) s.heap h H locs → lv_has ls 3 [(0, .ref o0)] → f_X12_gather_e o0 h = some (r, h') → W p l e (mh_rm 0) s m args below meth c H locs 0 0 (MQ below (mh_Qi D ks L s.heap.size r h') args s 0 0 (mh_A L s.heap.size)) (F0 m 0 ls []) := by
  intro o0 h H locs ls wd hl hX
  have hx := cx.1.1
  have hb := cx.1.2.1
  unfold f_X12_gather_e at hX
  refine lv_iconst (v := 0) hx hb dX12_gather_0 (by decide) ?_
  refine mh_topi hX (fun v24 hX => ?_)
  refine lv_istore_n (lv' := [(1, .int v24), (0, .ref o0)]) hx hb dX12_gather_1 rfl hl (Nat.le_of_ble_eq_true rfl) rfl (fun ls hl => ?_)
  exact w_X12_gather_b2 cx hr mh_fu _ _ h _ _ ls wd (lv_sub hl [1, 0] rfl) hX
set_option maxRecDepth 100000 in
theorem c_X12_gather {l : Launch} {L : List Nat} {h h' : mh_H} {r : Int32} {o0 : Nat} (hX : f_X12_gather_e o0 h = some (r, h')) : mh_MI l yX12_gather (Cond.code yX12_gather cX12_gather 3 (some .boolean) :: mh_TB) (mh_rm 0) [.ref o0] L h r h' :=
  mh_of (mc := 0) (ms := 0) (Qc := fun D ks sz => mh_Qi D ks L sz r h') (plainFor_of_name (by decide)) (Nat.le_of_ble_eq_true rfl) (fun p e s m below meth c D ks ls hr cx wd hl => by
    have hl : lv_has ls 3 [(0, .ref o0)] := hl
    exact w_X12_gather_e cx hr o0 h _ _ ls wd hl hX)
def f_X12_part_b26 (o0 : Nat) (h : mh_H) : Option (Int32 × mh_H) :=
  mh_b2 (mh_cal h o0 12 (f_X12_fail_e o0 (1 : Int32) h)) fun v2 h1 =>
  some (v2, h1)
def f_X12_part_b91 (k53 : Nat → Int32 → Int32 → mh_H → Option (Int32 × mh_H)) (o0 : Nat) (x3 : Int32) (x4 : Int32) (t0 : Nat) (t1 : Int32) (t2 : Int32) (h : mh_H) : Option (Int32 × mh_H) :=
  (mh_sZ h t0 t1 t2).bind fun h3 =>
  mh_nm (x4 + Int32.ofInt (1)) fun v4 =>
  k53 o0 x3 v4 h3
def f_X12_part_b90 (k91 : Nat → Int32 → Int32 → Nat → Int32 → Int32 → mh_H → Option (Int32 × mh_H)) (o0 : Nat) (x3 : Int32) (x4 : Int32) (t0 : Nat) (t1 : Int32) (h : mh_H) : Option (Int32 × mh_H) :=
  k91 o0 x3 x4 t0 t1 (0 : Int32) h
def f_X12_part_b114 (t0 : Int32) (h : mh_H) : Option (Int32 × mh_H) :=
  some (t0, h)
def f_X12_part_b98 (o0 : Nat) (x3 : Int32) (h : mh_H) : Option (Int32 × mh_H) :=
  mh_b2 (mh_cal h o0 12 (f_X12_gather_e o0 h)) fun v6 h5 =>
  if v6 = 0 then (
  f_X12_part_b114 (-1 : Int32) h5) else
  mh_b2 (mh_cal h5 o0 12 (f_X12_becomes_e o0 x3 h5)) fun v8 h7 =>
  f_X12_part_b114 v8 h7
def f_X12_part_b53 : Nat → Nat → Int32 → Int32 → mh_H → Option (Int32 × mh_H)
  | 0, _, _, _, _ => none
  | n + 1, o0, x3, x4, h =>
    if (200000 : Int32) < x4 then (
    f_X12_part_b98 o0 x3 h) else
    (mh_gR h o0 12 11).bind fun a9 =>
    (mh_gR h o0 12 11).bind fun a10 =>
    (mh_aI h a10 2 x4).bind fun v11 =>
    if v11 = 0 then (
    f_X12_part_b90 (f_X12_part_b91 (f_X12_part_b53 n)) o0 x3 x4 a9 x4 h) else
    (mh_gR h o0 12 9).bind fun a12 =>
    (mh_aI h a12 2 x4).bind fun v13 =>
    if v13 = 0 then (
    f_X12_part_b90 (f_X12_part_b91 (f_X12_part_b53 n)) o0 x3 x4 a9 x4 h) else
    f_X12_part_b91 (f_X12_part_b53 n) o0 x3 x4 a9 x4 (1 : Int32) h
def f_X12_part_e (o0 : Nat) (x1 : Int32) (x2 : Int32) (x3 : Int32) (h : mh_H) : Option (Int32 × mh_H) :=
  (mh_pI h o0 12 0 (0 : Int32)).bind fun h14 =>
  mh_b2 (f_X12_isMint_e x1 h14) fun v16 h15 =>
  if v16 = 0 then (
  f_X12_part_b26 o0 h15) else
  mh_b2 (f_X12_isMint_e x2 h15) fun v18 h17 =>
  if v18 = 0 then (
  f_X12_part_b26 o0 h17) else
  mh_b2 (f_X12_isMint_e x3 h17) fun v20 h19 =>
  if v20 = 0 then (
  f_X12_part_b26 o0 h19) else
  (mh_gR h19 o0 12 11).bind fun a21 =>
  (mh_cal h19 o0 12 (f_X12_spread_e o0 x1 a21 h19)).bind fun h22 =>
  (mh_gR h22 o0 12 9).bind fun a23 =>
  (mh_cal h22 o0 12 (f_X12_spread_e o0 x2 a23 h22)).bind fun h24 =>
  mh_nm (0 : Int32) fun v25 =>
  f_X12_part_b53 mh_fu o0 x3 v25 h24
set_option maxRecDepth 100000 in
set_option maxHeartbeats 4000000 in
theorem w_X12_part_b26 {p : Program} {l : Launch} {e : Env} {s : State} {m : MethodId} {args : Array Value} {below : List Frame} {meth : Method} {c : Code} {D : va_G} {ks : Nat → ClassId} {L : List Nat} {r : Int32} {h' : mh_H} (cx : mh_C p m c cX12_part 5 s args RX12 meth D ks (mh_A L s.heap.size)) (hr : meth.sig.returnType = (some .int)) :
    ∀ (o0 : Nat) (h : mh_H) (H : Heap) (locs : List Loc) (ls : Array Slot), mh_W D ks L (mh_A L s.heap.size) s.heap h H locs → lv_has ls 5 [(0, .ref o0)] → f_X12_part_b26 o0 h = some (r, h') → W p l e (mh_rm 2) s m args below meth c H locs 0 0 (MQ below (mh_Qi D ks L s.heap.size r h') args s 0 0 (mh_A L s.heap.size)) (F0 m 26 ls []) := by
  intro o0 h H locs ls wd hl hX
  have hx := cx.1.1
  have hb := cx.1.2.1
  unfold f_X12_part_b26 at hX
  refine lv_aload_n hx hb dX12_part_26 rfl (lv_at hl 0 rfl) ?_
  refine lv_iconst (v := 1) hx hb dX12_part_27 (by decide) ?_
  refine mh_callVI cx wd [.int (1 : Int32)] (rfl : vwCl[12]? = some (RX12, TX12, 38)) yw_X12_fail vw_X12_122 rfl hl.1 rfl (Nat.le_of_ble_eq_true rfl) dX12_part_28 ⟨Nat.le_of_ble_eq_true rfl, Nat.le_of_ble_eq_true rfl⟩ ⟨Nat.le_refl _, Nat.le_refl _⟩ (fun _ _ q => c_X12_fail q) hX (fun v2 h1 H locs wd hX => ?_)
  exact mh_iret cx wd hr hX dX12_part_31
set_option maxRecDepth 100000 in
set_option maxHeartbeats 4000000 in
theorem w_X12_part_b91 {p : Program} {l : Launch} {e : Env} {s : State} {m : MethodId} {args : Array Value} {below : List Frame} {meth : Method} {c : Code} {D : va_G} {ks : Nat → ClassId} {L : List Nat} {r : Int32} {h' : mh_H} (k53 : Nat → Int32 → Int32 → mh_H → Option (Int32 × mh_H)) (cx : mh_C p m c cX12_part 5 s args RX12 meth D ks (mh_A L s.heap.size)) (hr : meth.sig.returnType = (some .int))
    (hk53 : ∀ (o0 : Nat) (x3 : Int32) (x4 : Int32) (h : mh_H) (H : Heap) (locs : List Loc) (ls : Array Slot), mh_W D ks L (mh_A L s.heap.size) s.heap h H locs → lv_has ls 5 [(0, .ref o0), (3, .int x3), (4, .int x4)] → k53 o0 x3 x4 h = some (r, h') → W p l e (mh_rm 2) s m args below meth c H locs 0 0 (MQ below (mh_Qi D ks L s.heap.size r h') args s 0 0 (mh_A L s.heap.size)) (F0 m 53 ls [])) :
    ∀ (o0 : Nat) (x3 : Int32) (x4 : Int32) (t0 : Nat) (t1 : Int32) (t2 : Int32) (h : mh_H) (H : Heap) (locs : List Loc) (ls : Array Slot), mh_W D ks L (mh_A L s.heap.size) s.heap h H locs → lv_has ls 5 [(0, .ref o0), (3, .int x3), (4, .int x4)] → f_X12_part_b91 k53 o0 x3 x4 t0 t1 t2 h = some (r, h') → W p l e (mh_rm 2) s m args below meth c H locs 0 0 (MQ below (mh_Qi D ks L s.heap.size r h') args s 0 0 (mh_A L s.heap.size)) (F0 m 91 ls [.int t2, .int t1, .ref t0]) := by
  intro o0 x3 x4 t0 t1 t2 h H locs ls wd hl hX
  have hx := cx.1.1
  have hb := cx.1.2.1
  unfold f_X12_part_b91 at hX
  refine mh_zast cx wd dX12_part_91 hX (fun h3 H locs wd hX => ?_)
  obtain ⟨v4, ev4, hX⟩ := mh_nmx hX
  refine lv_iinc (k := 2) (v := v4) (lv' := [(4, .int v4), (0, .ref o0), (3, .int x3)]) hx hb dX12_part_92 hl rfl ev4 (Nat.le_of_ble_eq_true rfl) rfl (fun ls hl => ?_)
  refine lv_goto (tgt := 53) hx hb dX12_part_95 rfl ?_
  exact hk53 _ _ _ h3 _ _ ls wd (lv_sub hl [1, 2, 0] rfl) hX
set_option maxRecDepth 100000 in
set_option maxHeartbeats 4000000 in
theorem w_X12_part_b90 {p : Program} {l : Launch} {e : Env} {s : State} {m : MethodId} {args : Array Value} {below : List Frame} {meth : Method} {c : Code} {D : va_G} {ks : Nat → ClassId} {L : List Nat} {r : Int32} {h' : mh_H} (k91 : Nat → Int32 → Int32 → Nat → Int32 → Int32 → mh_H → Option (Int32 × mh_H)) (cx : mh_C p m c cX12_part 5 s args RX12 meth D ks (mh_A L s.heap.size)) (hr : meth.sig.returnType = (some .int))
    (hk91 : ∀ (o0 : Nat) (x3 : Int32) (x4 : Int32) (t0 : Nat) (t1 : Int32) (t2 : Int32) (h : mh_H) (H : Heap) (locs : List Loc) (ls : Array Slot), mh_W D ks L (mh_A L s.heap.size) s.heap h H locs → lv_has ls 5 [(0, .ref o0), (3, .int x3), (4, .int x4)] → k91 o0 x3 x4 t0 t1 t2 h = some (r, h') → W p l e (mh_rm 2) s m args below meth c H locs 0 0 (MQ below (mh_Qi D ks L s.heap.size r h') args s 0 0 (mh_A L s.heap.size)) (F0 m 91 ls [.int t2, .int t1, .ref t0])) :
    ∀ (o0 : Nat) (x3 : Int32) (x4 : Int32) (t0 : Nat) (t1 : Int32) (h : mh_H) (H : Heap) (locs : List Loc) (ls : Array Slot), mh_W D ks L (mh_A L s.heap.size) s.heap h H locs → lv_has ls 5 [(0, .ref o0), (3, .int x3), (4, .int x4)] → f_X12_part_b90 k91 o0 x3 x4 t0 t1 h = some (r, h') → W p l e (mh_rm 2) s m args below meth c H locs 0 0 (MQ below (mh_Qi D ks L s.heap.size r h') args s 0 0 (mh_A L s.heap.size)) (F0 m 90 ls [.int t1, .ref t0]) := by
  intro o0 x3 x4 t0 t1 h H locs ls wd hl hX
  have hx := cx.1.1
  have hb := cx.1.2.1
  unfold f_X12_part_b90 at hX
  refine lv_iconst (v := 0) hx hb dX12_part_90 (by decide) ?_
  exact hk91 _ _ _ _ _ _ h _ _ ls wd (lv_sub hl [0, 1, 2] rfl) hX
set_option maxRecDepth 100000 in
set_option maxHeartbeats 4000000 in
theorem w_X12_part_b114 {p : Program} {l : Launch} {e : Env} {s : State} {m : MethodId} {args : Array Value} {below : List Frame} {meth : Method} {c : Code} {D : va_G} {ks : Nat → ClassId} {L : List Nat} {r : Int32} {h' : mh_H} (cx : mh_C p m c cX12_part 5 s args RX12 meth D ks (mh_A L s.heap.size)) (hr : meth.sig.returnType = (some .int)) :
    ∀ (t0 : Int32) (h : mh_H) (H : Heap) (locs : List Loc) (ls : Array Slot), mh_W D ks L (mh_A L s.heap.size) s.heap h H locs → lv_has ls 5 [] → f_X12_part_b114 t0 h = some (r, h') → W p l e (mh_rm 2) s m args below meth c H locs 0 0 (MQ below (mh_Qi D ks L s.heap.size r h') args s 0 0 (mh_A L s.heap.size)) (F0 m 114 ls [.int t0]) := by
  intro t0 h H locs ls wd hl hX
  have hx := cx.1.1
  have hb := cx.1.2.1
  unfold f_X12_part_b114 at hX
  exact mh_iret cx wd hr hX dX12_part_114
set_option maxRecDepth 100000 in
set_option maxHeartbeats 4000000 in
theorem w_X12_part_b98 {p : Program} {l : Launch} {e : Env} {s : State} {m : MethodId} {args : Array Value} {below : List Frame} {meth : Method} {c : Code} {D : va_G} {ks : Nat → ClassId} {L : List Nat} {r : Int32} {h' : mh_H} (cx : mh_C p m c cX12_part 5 s args RX12 meth D ks (mh_A L s.heap.size)) (hr : meth.sig.returnType = (some .int)) :
    ∀ (o0 : Nat) (x3 : Int32) (h : mh_H) (H : Heap) (locs : List Loc) (ls : Array Slot), mh_W D ks L (mh_A L s.heap.size) s.heap h H locs → lv_has ls 5 [(0, .ref o0), (3, .int x3)] → f_X12_part_b98 o0 x3 h = some (r, h') → W p l e (mh_rm 2) s m args below meth c H locs 0 0 (MQ below (mh_Qi D ks L s.heap.size r h') args s 0 0 (mh_A L s.heap.size)) (F0 m 98 ls []) := by
  intro o0 x3 h H locs ls wd hl hX
  have hx := cx.1.1
  have hb := cx.1.2.1
  unfold f_X12_part_b98 at hX
  refine lv_aload_n hx hb dX12_part_98 rfl (lv_at hl 0 rfl) ?_
  refine mh_callVI cx wd [] (rfl : vwCl[12]? = some (RX12, TX12, 38)) yw_X12_gather vw_X12_198 rfl hl.1 rfl (Nat.le_of_ble_eq_true rfl) dX12_part_99 ⟨Nat.le_of_ble_eq_true rfl, Nat.le_of_ble_eq_true rfl⟩ ⟨Nat.le_refl _, Nat.le_refl _⟩ (fun _ _ q => c_X12_gather q) hX (fun v6 h5 H locs wd hX => ?_)
  refine lv_if_eq (tgt := 113) hx hb dX12_part_102 rfl (fun hc => (fun hX => ?_) ((mh_if hX).1 hc)) (fun hc => (fun hX => ?_) ((mh_if hX).2 hc))
  · refine lv_iconst (v := (-1)) hx hb dX12_part_113 (by decide) ?_
    exact w_X12_part_b114 cx hr _ h5 _ _ ls wd (lv_sub hl [] rfl) hX
  · refine lv_aload_n hx hb dX12_part_105 rfl (lv_at hl 0 rfl) ?_
    refine lv_iload_n hx hb dX12_part_106 rfl (lv_at hl 1 rfl) ?_
    refine mh_callVI cx wd [.int x3] (rfl : vwCl[12]? = some (RX12, TX12, 38)) yw_X12_becomes vw_X12_190 rfl hl.1 rfl (Nat.le_of_ble_eq_true rfl) dX12_part_107 ⟨Nat.le_of_ble_eq_true rfl, Nat.le_of_ble_eq_true rfl⟩ ⟨Nat.le_refl _, Nat.le_refl _⟩ (fun _ _ q => c_X12_becomes q) hX (fun v8 h7 H locs wd hX => ?_)
    refine lv_goto (tgt := 114) hx hb dX12_part_110 rfl ?_
    exact w_X12_part_b114 cx hr _ h7 _ _ ls wd (lv_sub hl [] rfl) hX
set_option maxRecDepth 100000 in
set_option maxHeartbeats 4000000 in
theorem w_X12_part_b53 {p : Program} {l : Launch} {e : Env} {s : State} {m : MethodId} {args : Array Value} {below : List Frame} {meth : Method} {c : Code} {D : va_G} {ks : Nat → ClassId} {L : List Nat} {r : Int32} {h' : mh_H} (cx : mh_C p m c cX12_part 5 s args RX12 meth D ks (mh_A L s.heap.size)) (hr : meth.sig.returnType = (some .int)) :
    ∀ n : Nat, ∀ (o0 : Nat) (x3 : Int32) (x4 : Int32) (h : mh_H) (H : Heap) (locs : List Loc) (ls : Array Slot), mh_W D ks L (mh_A L s.heap.size) s.heap h H locs → lv_has ls 5 [(0, .ref o0), (3, .int x3), (4, .int x4)] → f_X12_part_b53 n o0 x3 x4 h = some (r, h') → W p l e (mh_rm 2) s m args below meth c H locs 0 0 (MQ below (mh_Qi D ks L s.heap.size r h') args s 0 0 (mh_A L s.heap.size)) (F0 m 53 ls []) := by
  intro n
  induction n with
  | zero =>
    intro o0 x3 x4 h H locs ls wd hl hX
    cases hX
  | succ n ih =>
    intro o0 x3 x4 h H locs ls wd hl hX
    have hx := cx.1.1
    have hb := cx.1.2.1
    rw [f_X12_part_b53] at hX
    refine lv_iload hx hb dX12_part_53 (lv_at hl 2 rfl) ?_
    refine mh_ldc cx kc_X12_193 dX12_part_55 ?_
    refine lv_icmp_gt (tgt := 98) hx hb dX12_part_57 rfl (fun hc => (fun hX => ?_) ((mh_if hX).1 hc)) (fun hc => (fun hX => ?_) ((mh_if hX).2 hc))
    · exact w_X12_part_b98 cx hr _ _ h _ _ ls wd (lv_sub hl [0, 1] rfl) hX
    · refine lv_aload_n hx hb dX12_part_60 rfl (lv_at hl 0 rfl) ?_
      refine mh_getR cx wd fl_X12_37 dX12_part_61 hX (fun a9 hX => ?_)
      refine lv_iload hx hb dX12_part_64 (lv_at hl 2 rfl) ?_
      refine lv_aload_n hx hb dX12_part_66 rfl (lv_at hl 0 rfl) ?_
      refine mh_getR cx wd fl_X12_37 dX12_part_67 hX (fun a10 hX => ?_)
      refine lv_iload hx hb dX12_part_70 (lv_at hl 2 rfl) ?_
      refine mh_zald cx wd dX12_part_72 hX (fun v11 hX => ?_)
      refine lv_if_eq (tgt := 90) hx hb dX12_part_73 rfl (fun hc => (fun hX => ?_) ((mh_if hX).1 hc)) (fun hc => (fun hX => ?_) ((mh_if hX).2 hc))
      · exact w_X12_part_b90 (f_X12_part_b91 (f_X12_part_b53 n)) cx hr (w_X12_part_b91 (f_X12_part_b53 n) cx hr ih) _ _ _ _ _ h _ _ ls wd (lv_sub hl [0, 1, 2] rfl) hX
      · refine lv_aload_n hx hb dX12_part_76 rfl (lv_at hl 0 rfl) ?_
        refine mh_getR cx wd fl_X12_30 dX12_part_77 hX (fun a12 hX => ?_)
        refine lv_iload hx hb dX12_part_80 (lv_at hl 2 rfl) ?_
        refine mh_zald cx wd dX12_part_82 hX (fun v13 hX => ?_)
        refine lv_if_eq (tgt := 90) hx hb dX12_part_83 rfl (fun hc => (fun hX => ?_) ((mh_if hX).1 hc)) (fun hc => (fun hX => ?_) ((mh_if hX).2 hc))
        · exact w_X12_part_b90 (f_X12_part_b91 (f_X12_part_b53 n)) cx hr (w_X12_part_b91 (f_X12_part_b53 n) cx hr ih) _ _ _ _ _ h _ _ ls wd (lv_sub hl [0, 1, 2] rfl) hX
        · refine lv_iconst (v := 1) hx hb dX12_part_86 (by decide) ?_
          refine lv_goto (tgt := 91) hx hb dX12_part_87 rfl ?_
          exact w_X12_part_b91 (f_X12_part_b53 n) cx hr ih _ _ _ _ _ _ h _ _ ls wd (lv_sub hl [0, 1, 2] rfl) hX
set_option maxRecDepth 100000 in
set_option maxHeartbeats 4000000 in
theorem w_X12_part_e {p : Program} {l : Launch} {e : Env} {s : State} {m : MethodId} {args : Array Value} {below : List Frame} {meth : Method} {c : Code} {D : va_G} {ks : Nat → ClassId} {L : List Nat} {r : Int32} {h' : mh_H} (cx : mh_C p m c cX12_part 5 s args RX12 meth D ks (mh_A L s.heap.size)) (hr : meth.sig.returnType = (some .int)) :
    ∀ (o0 : Nat) (x1 : Int32) (x2 : Int32) (x3 : Int32) (h : mh_H) (H : Heap) (locs : List Loc) (ls : Array Slot), mh_W D ks L (mh_A L s.heap.size) s.heap h H locs → lv_has ls 5 [(0, .ref o0), (1, .int x1), (2, .int x2), (3, .int x3)] → f_X12_part_e o0 x1 x2 x3 h = some (r, h') → W p l e (mh_rm 2) s m args below meth c H locs 0 0 (MQ below (mh_Qi D ks L s.heap.size r h') args s 0 0 (mh_A L s.heap.size)) (F0 m 0 ls []) := by
  intro o0 x1 x2 x3 h H locs ls wd hl hX
  have hx := cx.1.1
  have hb := cx.1.2.1
  unfold f_X12_part_e at hX
  refine lv_aload_n hx hb dX12_part_0 rfl (lv_at hl 0 rfl) ?_
  refine lv_iconst (v := 0) hx hb dX12_part_1 (by decide) ?_
  refine mh_putI cx wd fp_X12_96 dX12_part_2 hX (fun h14 H locs wd hX => ?_)
  refine lv_iload_n hx hb dX12_part_5 rfl (lv_at hl 1 rfl) ?_
  refine mh_callSI cx wd [.int x1] yw_X12_isMint sw_X12_111 rfl hl.1 rfl (Nat.le_of_ble_eq_true rfl) dX12_part_6 ⟨Nat.le_of_ble_eq_true rfl, Nat.le_of_ble_eq_true rfl⟩ ⟨Nat.le_refl _, Nat.le_refl _⟩ (fun _ _ q => c_X12_isMint q) hX (fun v16 h15 H locs wd hX => ?_)
  refine lv_if_eq (tgt := 26) hx hb dX12_part_9 rfl (fun hc => (fun hX => ?_) ((mh_if hX).1 hc)) (fun hc => (fun hX => ?_) ((mh_if hX).2 hc))
  · exact w_X12_part_b26 cx hr _ h15 _ _ ls wd (lv_sub hl [0] rfl) hX
  · refine lv_iload_n hx hb dX12_part_12 rfl (lv_at hl 2 rfl) ?_
    refine mh_callSI cx wd [.int x2] yw_X12_isMint sw_X12_111 rfl hl.1 rfl (Nat.le_of_ble_eq_true rfl) dX12_part_13 ⟨Nat.le_of_ble_eq_true rfl, Nat.le_of_ble_eq_true rfl⟩ ⟨Nat.le_refl _, Nat.le_refl _⟩ (fun _ _ q => c_X12_isMint q) hX (fun v18 h17 H locs wd hX => ?_)
    refine lv_if_eq (tgt := 26) hx hb dX12_part_16 rfl (fun hc => (fun hX => ?_) ((mh_if hX).1 hc)) (fun hc => (fun hX => ?_) ((mh_if hX).2 hc))
    · exact w_X12_part_b26 cx hr _ h17 _ _ ls wd (lv_sub hl [0] rfl) hX
    · refine lv_iload_n hx hb dX12_part_19 rfl (lv_at hl 3 rfl) ?_
      refine mh_callSI cx wd [.int x3] yw_X12_isMint sw_X12_111 rfl hl.1 rfl (Nat.le_of_ble_eq_true rfl) dX12_part_20 ⟨Nat.le_of_ble_eq_true rfl, Nat.le_of_ble_eq_true rfl⟩ ⟨Nat.le_refl _, Nat.le_refl _⟩ (fun _ _ q => c_X12_isMint q) hX (fun v20 h19 H locs wd hX => ?_)
      refine lv_if_ne (tgt := 32) hx hb dX12_part_23 rfl (fun hc => (fun hX => ?_) ((mh_if hX).2 hc)) (fun hc => (fun hX => ?_) ((mh_if hX).1 hc))
      · refine lv_aload_n hx hb dX12_part_32 rfl (lv_at hl 0 rfl) ?_
        refine lv_iload_n hx hb dX12_part_33 rfl (lv_at hl 1 rfl) ?_
        refine lv_aload_n hx hb dX12_part_34 rfl (lv_at hl 0 rfl) ?_
        refine mh_getR cx wd fl_X12_37 dX12_part_35 hX (fun a21 hX => ?_)
        refine mh_callVV cx wd [.int x1, .ref a21] (rfl : vwCl[12]? = some (RX12, TX12, 38)) yw_X12_spread vw_X12_194 rfl hl.1 rfl (Nat.le_of_ble_eq_true rfl) dX12_part_38 ⟨Nat.le_of_ble_eq_true rfl, Nat.le_of_ble_eq_true rfl⟩ ⟨Nat.le_refl _, Nat.le_refl _⟩ (fun _ q => c_X12_spread q) hX (fun h22 H locs wd hX => ?_)
        refine lv_aload_n hx hb dX12_part_41 rfl (lv_at hl 0 rfl) ?_
        refine lv_iload_n hx hb dX12_part_42 rfl (lv_at hl 2 rfl) ?_
        refine lv_aload_n hx hb dX12_part_43 rfl (lv_at hl 0 rfl) ?_
        refine mh_getR cx wd fl_X12_30 dX12_part_44 hX (fun a23 hX => ?_)
        refine mh_callVV cx wd [.int x2, .ref a23] (rfl : vwCl[12]? = some (RX12, TX12, 38)) yw_X12_spread vw_X12_194 rfl hl.1 rfl (Nat.le_of_ble_eq_true rfl) dX12_part_47 ⟨Nat.le_of_ble_eq_true rfl, Nat.le_of_ble_eq_true rfl⟩ ⟨Nat.le_refl _, Nat.le_refl _⟩ (fun _ q => c_X12_spread q) hX (fun h24 H locs wd hX => ?_)
        refine lv_iconst (v := 0) hx hb dX12_part_50 (by decide) ?_
        refine mh_topi hX (fun v25 hX => ?_)
        refine lv_istore (lv' := [(4, .int v25), (0, .ref o0), (1, .int x1), (2, .int x2), (3, .int x3)]) hx hb dX12_part_51 hl (Nat.le_of_ble_eq_true rfl) rfl (fun ls hl => ?_)
        exact w_X12_part_b53 cx hr mh_fu _ _ _ h24 _ _ ls wd (lv_sub hl [1, 4, 0] rfl) hX
      · exact w_X12_part_b26 cx hr _ h19 _ _ ls wd (lv_sub hl [0] rfl) hX
set_option maxRecDepth 100000 in
theorem c_X12_part {l : Launch} {L : List Nat} {h h' : mh_H} {r : Int32} {o0 : Nat} {x1 : Int32} {x2 : Int32} {x3 : Int32} (hX : f_X12_part_e o0 x1 x2 x3 h = some (r, h')) : mh_MI l yX12_part (Cond.code yX12_part cX12_part 5 (some .int) :: mh_TB) (mh_rm 2) [.ref o0, .int x1, .int x2, .int x3] L h r h' :=
  mh_of (mc := 0) (ms := 0) (Qc := fun D ks sz => mh_Qi D ks L sz r h') (plainFor_of_name (by decide)) (Nat.le_of_ble_eq_true rfl) (fun p e s m below meth c D ks ls hr cx wd hl => by
    have hl : lv_has ls 5 [(0, .ref o0), (1, .int x1), (2, .int x2), (3, .int x3)] := hl
    exact w_X12_part_e cx hr o0 x1 x2 x3 h _ _ ls wd hl hX)
def f_X12_factor_b19 (o0 : Nat) (h : mh_H) : Option (Int32 × mh_H) :=
  mh_b2 (mh_cal h o0 12 (f_X12_fail_e o0 (1 : Int32) h)) fun v2 h1 =>
  some (v2, h1)
def f_X12_factor_b37 (o0 : Nat) (h : mh_H) : Option (Int32 × mh_H) :=
  mh_b2 (mh_cal h o0 12 (f_X12_fail_e o0 (2 : Int32) h)) fun v4 h3 =>
  some (v4, h3)
def f_X12_factor_b124 (k62 : Nat → Int32 → Int32 → Int32 → Int32 → mh_H → Option (Int32 × mh_H)) (o0 : Nat) (x2 : Int32) (x3 : Int32) (x4 : Int32) (x5 : Int32) (t0 : Nat) (t1 : Int32) (t2 : Int32) (h : mh_H) : Option (Int32 × mh_H) :=
  (mh_sZ h t0 t1 t2).bind fun h5 =>
  mh_nm (x5 + Int32.ofInt (1)) fun v6 =>
  k62 o0 x2 x3 x4 v6 h5
def f_X12_factor_b123 (k124 : Nat → Int32 → Int32 → Int32 → Int32 → Nat → Int32 → Int32 → mh_H → Option (Int32 × mh_H)) (o0 : Nat) (x2 : Int32) (x3 : Int32) (x4 : Int32) (x5 : Int32) (t0 : Nat) (t1 : Int32) (h : mh_H) : Option (Int32 × mh_H) :=
  k124 o0 x2 x3 x4 x5 t0 t1 (0 : Int32) h
def f_X12_factor_b147 (t0 : Int32) (h : mh_H) : Option (Int32 × mh_H) :=
  some (t0, h)
def f_X12_factor_b131 (o0 : Nat) (x3 : Int32) (h : mh_H) : Option (Int32 × mh_H) :=
  mh_b2 (mh_cal h o0 12 (f_X12_gather_e o0 h)) fun v8 h7 =>
  if v8 = 0 then (
  f_X12_factor_b147 (-1 : Int32) h7) else
  mh_b2 (mh_cal h7 o0 12 (f_X12_becomes_e o0 x3 h7)) fun v10 h9 =>
  f_X12_factor_b147 v10 h9
def f_X12_factor_b62 : Nat → Nat → Int32 → Int32 → Int32 → Int32 → mh_H → Option (Int32 × mh_H)
  | 0, _, _, _, _, _, _ => none
  | n + 1, o0, x2, x3, x4, x5, h =>
    if (200000 : Int32) < x5 then (
    f_X12_factor_b131 o0 x3 h) else
    mh_nm ((x2).toInt64 * (x5).toInt64) fun w11 =>
    (mh_gR h o0 12 11).bind fun a12 =>
    if 0 < (lg_cmp w11 (200000 : Int64)) then (
    if x4 ≤ 0 then (
    f_X12_factor_b123 (f_X12_factor_b124 (f_X12_factor_b62 n)) o0 x2 x3 x4 x5 a12 x5 h) else
    mh_nz ((x4).toInt64 = 0) <|
    if (lg_cmp (mh_lrem w11 ((x4).toInt64)) (0 : Int64)) = 0 then (
    f_X12_factor_b124 (f_X12_factor_b62 n) o0 x2 x3 x4 x5 a12 x5 (1 : Int32) h) else
    f_X12_factor_b123 (f_X12_factor_b124 (f_X12_factor_b62 n)) o0 x2 x3 x4 x5 a12 x5 h) else
    (mh_gR h o0 12 9).bind fun a13 =>
    (mh_aI h a13 2 ((w11).toInt32)).bind fun v14 =>
    f_X12_factor_b124 (f_X12_factor_b62 n) o0 x2 x3 x4 x5 a12 x5 v14 h
def f_X12_factor_e (o0 : Nat) (x1 : Int32) (x2 : Int32) (x3 : Int32) (h : mh_H) : Option (Int32 × mh_H) :=
  (mh_pI h o0 12 0 (0 : Int32)).bind fun h15 =>
  mh_b2 (f_X12_isMint_e x1 h15) fun v17 h16 =>
  if v17 = 0 then (
  f_X12_factor_b19 o0 h16) else
  mh_b2 (f_X12_isMint_e x3 h16) fun v19 h18 =>
  if v19 = 0 then (
  f_X12_factor_b19 o0 h18) else
  if x2 < (1 : Int32) then (
  f_X12_factor_b37 o0 h18) else
  if x2 ≤ (300 : Int32) then (
  (mh_gR h18 o0 12 9).bind fun a20 =>
  (mh_cal h18 o0 12 (f_X12_spread_e o0 x1 a20 h18)).bind fun h21 =>
  mh_b2 (mh_cal h21 o0 12 (f_X12_divisorOf_e o0 x1 h21)) fun v23 h22 =>
  mh_nm (0 : Int32) fun v24 =>
  f_X12_factor_b62 mh_fu o0 x2 x3 v23 v24 h22) else
  f_X12_factor_b37 o0 h18
set_option maxRecDepth 100000 in
set_option maxHeartbeats 4000000 in
theorem w_X12_factor_b19 {p : Program} {l : Launch} {e : Env} {s : State} {m : MethodId} {args : Array Value} {below : List Frame} {meth : Method} {c : Code} {D : va_G} {ks : Nat → ClassId} {L : List Nat} {r : Int32} {h' : mh_H} (cx : mh_C p m c cX12_factor 8 s args RX12 meth D ks (mh_A L s.heap.size)) (hr : meth.sig.returnType = (some .int)) :
    ∀ (o0 : Nat) (h : mh_H) (H : Heap) (locs : List Loc) (ls : Array Slot), mh_W D ks L (mh_A L s.heap.size) s.heap h H locs → lv_has ls 8 [(0, .ref o0)] → f_X12_factor_b19 o0 h = some (r, h') → W p l e (mh_rm 2) s m args below meth c H locs 0 0 (MQ below (mh_Qi D ks L s.heap.size r h') args s 0 0 (mh_A L s.heap.size)) (F0 m 19 ls []) := by
  intro o0 h H locs ls wd hl hX
  have hx := cx.1.1
  have hb := cx.1.2.1
  unfold f_X12_factor_b19 at hX
  refine lv_aload_n hx hb dX12_factor_19 rfl (lv_at hl 0 rfl) ?_
  refine lv_iconst (v := 1) hx hb dX12_factor_20 (by decide) ?_
  refine mh_callVI cx wd [.int (1 : Int32)] (rfl : vwCl[12]? = some (RX12, TX12, 38)) yw_X12_fail vw_X12_122 rfl hl.1 rfl (Nat.le_of_ble_eq_true rfl) dX12_factor_21 ⟨Nat.le_of_ble_eq_true rfl, Nat.le_of_ble_eq_true rfl⟩ ⟨Nat.le_refl _, Nat.le_refl _⟩ (fun _ _ q => c_X12_fail q) hX (fun v2 h1 H locs wd hX => ?_)
  exact mh_iret cx wd hr hX dX12_factor_24
set_option maxRecDepth 100000 in
set_option maxHeartbeats 4000000 in
theorem w_X12_factor_b37 {p : Program} {l : Launch} {e : Env} {s : State} {m : MethodId} {args : Array Value} {below : List Frame} {meth : Method} {c : Code} {D : va_G} {ks : Nat → ClassId} {L : List Nat} {r : Int32} {h' : mh_H} (cx : mh_C p m c cX12_factor 8 s args RX12 meth D ks (mh_A L s.heap.size)) (hr : meth.sig.returnType = (some .int)) :
    ∀ (o0 : Nat) (h : mh_H) (H : Heap) (locs : List Loc) (ls : Array Slot), mh_W D ks L (mh_A L s.heap.size) s.heap h H locs → lv_has ls 8 [(0, .ref o0)] → f_X12_factor_b37 o0 h = some (r, h') → W p l e (mh_rm 2) s m args below meth c H locs 0 0 (MQ below (mh_Qi D ks L s.heap.size r h') args s 0 0 (mh_A L s.heap.size)) (F0 m 37 ls []) := by
  intro o0 h H locs ls wd hl hX
  have hx := cx.1.1
  have hb := cx.1.2.1
  unfold f_X12_factor_b37 at hX
  refine lv_aload_n hx hb dX12_factor_37 rfl (lv_at hl 0 rfl) ?_
  refine lv_iconst (v := 2) hx hb dX12_factor_38 (by decide) ?_
  refine mh_callVI cx wd [.int (2 : Int32)] (rfl : vwCl[12]? = some (RX12, TX12, 38)) yw_X12_fail vw_X12_122 rfl hl.1 rfl (Nat.le_of_ble_eq_true rfl) dX12_factor_39 ⟨Nat.le_of_ble_eq_true rfl, Nat.le_of_ble_eq_true rfl⟩ ⟨Nat.le_refl _, Nat.le_refl _⟩ (fun _ _ q => c_X12_fail q) hX (fun v4 h3 H locs wd hX => ?_)
  exact mh_iret cx wd hr hX dX12_factor_42
set_option maxRecDepth 100000 in
set_option maxHeartbeats 4000000 in
theorem w_X12_factor_b124 {p : Program} {l : Launch} {e : Env} {s : State} {m : MethodId} {args : Array Value} {below : List Frame} {meth : Method} {c : Code} {D : va_G} {ks : Nat → ClassId} {L : List Nat} {r : Int32} {h' : mh_H} (k62 : Nat → Int32 → Int32 → Int32 → Int32 → mh_H → Option (Int32 × mh_H)) (cx : mh_C p m c cX12_factor 8 s args RX12 meth D ks (mh_A L s.heap.size)) (hr : meth.sig.returnType = (some .int))
    (hk62 : ∀ (o0 : Nat) (x2 : Int32) (x3 : Int32) (x4 : Int32) (x5 : Int32) (h : mh_H) (H : Heap) (locs : List Loc) (ls : Array Slot), mh_W D ks L (mh_A L s.heap.size) s.heap h H locs → lv_has ls 8 [(0, .ref o0), (2, .int x2), (3, .int x3), (4, .int x4), (5, .int x5)] → k62 o0 x2 x3 x4 x5 h = some (r, h') → W p l e (mh_rm 2) s m args below meth c H locs 0 0 (MQ below (mh_Qi D ks L s.heap.size r h') args s 0 0 (mh_A L s.heap.size)) (F0 m 62 ls [])) :
    ∀ (o0 : Nat) (x2 : Int32) (x3 : Int32) (x4 : Int32) (x5 : Int32) (t0 : Nat) (t1 : Int32) (t2 : Int32) (h : mh_H) (H : Heap) (locs : List Loc) (ls : Array Slot), mh_W D ks L (mh_A L s.heap.size) s.heap h H locs → lv_has ls 8 [(0, .ref o0), (2, .int x2), (3, .int x3), (4, .int x4), (5, .int x5)] → f_X12_factor_b124 k62 o0 x2 x3 x4 x5 t0 t1 t2 h = some (r, h') → W p l e (mh_rm 2) s m args below meth c H locs 0 0 (MQ below (mh_Qi D ks L s.heap.size r h') args s 0 0 (mh_A L s.heap.size)) (F0 m 124 ls [.int t2, .int t1, .ref t0]) := by
  intro o0 x2 x3 x4 x5 t0 t1 t2 h H locs ls wd hl hX
  have hx := cx.1.1
  have hb := cx.1.2.1
  unfold f_X12_factor_b124 at hX
  refine mh_zast cx wd dX12_factor_124 hX (fun h5 H locs wd hX => ?_)
  obtain ⟨v6, ev6, hX⟩ := mh_nmx hX
  refine lv_iinc (k := 4) (v := v6) (lv' := [(5, .int v6), (0, .ref o0), (2, .int x2), (3, .int x3), (4, .int x4)]) hx hb dX12_factor_125 hl rfl ev6 (Nat.le_of_ble_eq_true rfl) rfl (fun ls hl => ?_)
  refine lv_goto (tgt := 62) hx hb dX12_factor_128 rfl ?_
  exact hk62 _ _ _ _ _ h5 _ _ ls wd (lv_sub hl [1, 2, 3, 4, 0] rfl) hX
set_option maxRecDepth 100000 in
set_option maxHeartbeats 4000000 in
theorem w_X12_factor_b123 {p : Program} {l : Launch} {e : Env} {s : State} {m : MethodId} {args : Array Value} {below : List Frame} {meth : Method} {c : Code} {D : va_G} {ks : Nat → ClassId} {L : List Nat} {r : Int32} {h' : mh_H} (k124 : Nat → Int32 → Int32 → Int32 → Int32 → Nat → Int32 → Int32 → mh_H → Option (Int32 × mh_H)) (cx : mh_C p m c cX12_factor 8 s args RX12 meth D ks (mh_A L s.heap.size)) (hr : meth.sig.returnType = (some .int))
    (hk124 : ∀ (o0 : Nat) (x2 : Int32) (x3 : Int32) (x4 : Int32) (x5 : Int32) (t0 : Nat) (t1 : Int32) (t2 : Int32) (h : mh_H) (H : Heap) (locs : List Loc) (ls : Array Slot), mh_W D ks L (mh_A L s.heap.size) s.heap h H locs → lv_has ls 8 [(0, .ref o0), (2, .int x2), (3, .int x3), (4, .int x4), (5, .int x5)] → k124 o0 x2 x3 x4 x5 t0 t1 t2 h = some (r, h') → W p l e (mh_rm 2) s m args below meth c H locs 0 0 (MQ below (mh_Qi D ks L s.heap.size r h') args s 0 0 (mh_A L s.heap.size)) (F0 m 124 ls [.int t2, .int t1, .ref t0])) :
    ∀ (o0 : Nat) (x2 : Int32) (x3 : Int32) (x4 : Int32) (x5 : Int32) (t0 : Nat) (t1 : Int32) (h : mh_H) (H : Heap) (locs : List Loc) (ls : Array Slot), mh_W D ks L (mh_A L s.heap.size) s.heap h H locs → lv_has ls 8 [(0, .ref o0), (2, .int x2), (3, .int x3), (4, .int x4), (5, .int x5)] → f_X12_factor_b123 k124 o0 x2 x3 x4 x5 t0 t1 h = some (r, h') → W p l e (mh_rm 2) s m args below meth c H locs 0 0 (MQ below (mh_Qi D ks L s.heap.size r h') args s 0 0 (mh_A L s.heap.size)) (F0 m 123 ls [.int t1, .ref t0]) := by
  intro o0 x2 x3 x4 x5 t0 t1 h H locs ls wd hl hX
  have hx := cx.1.1
  have hb := cx.1.2.1
  unfold f_X12_factor_b123 at hX
  refine lv_iconst (v := 0) hx hb dX12_factor_123 (by decide) ?_
  exact hk124 _ _ _ _ _ _ _ _ h _ _ ls wd (lv_sub hl [0, 1, 2, 3, 4] rfl) hX
set_option maxRecDepth 100000 in
set_option maxHeartbeats 4000000 in
theorem w_X12_factor_b147 {p : Program} {l : Launch} {e : Env} {s : State} {m : MethodId} {args : Array Value} {below : List Frame} {meth : Method} {c : Code} {D : va_G} {ks : Nat → ClassId} {L : List Nat} {r : Int32} {h' : mh_H} (cx : mh_C p m c cX12_factor 8 s args RX12 meth D ks (mh_A L s.heap.size)) (hr : meth.sig.returnType = (some .int)) :
    ∀ (t0 : Int32) (h : mh_H) (H : Heap) (locs : List Loc) (ls : Array Slot), mh_W D ks L (mh_A L s.heap.size) s.heap h H locs → lv_has ls 8 [] → f_X12_factor_b147 t0 h = some (r, h') → W p l e (mh_rm 2) s m args below meth c H locs 0 0 (MQ below (mh_Qi D ks L s.heap.size r h') args s 0 0 (mh_A L s.heap.size)) (F0 m 147 ls [.int t0]) := by
  intro t0 h H locs ls wd hl hX
  have hx := cx.1.1
  have hb := cx.1.2.1
  unfold f_X12_factor_b147 at hX
  exact mh_iret cx wd hr hX dX12_factor_147
set_option maxRecDepth 100000 in
set_option maxHeartbeats 4000000 in
theorem w_X12_factor_b131 {p : Program} {l : Launch} {e : Env} {s : State} {m : MethodId} {args : Array Value} {below : List Frame} {meth : Method} {c : Code} {D : va_G} {ks : Nat → ClassId} {L : List Nat} {r : Int32} {h' : mh_H} (cx : mh_C p m c cX12_factor 8 s args RX12 meth D ks (mh_A L s.heap.size)) (hr : meth.sig.returnType = (some .int)) :
    ∀ (o0 : Nat) (x3 : Int32) (h : mh_H) (H : Heap) (locs : List Loc) (ls : Array Slot), mh_W D ks L (mh_A L s.heap.size) s.heap h H locs → lv_has ls 8 [(0, .ref o0), (3, .int x3)] → f_X12_factor_b131 o0 x3 h = some (r, h') → W p l e (mh_rm 2) s m args below meth c H locs 0 0 (MQ below (mh_Qi D ks L s.heap.size r h') args s 0 0 (mh_A L s.heap.size)) (F0 m 131 ls []) := by
  intro o0 x3 h H locs ls wd hl hX
  have hx := cx.1.1
  have hb := cx.1.2.1
  unfold f_X12_factor_b131 at hX
  refine lv_aload_n hx hb dX12_factor_131 rfl (lv_at hl 0 rfl) ?_
  refine mh_callVI cx wd [] (rfl : vwCl[12]? = some (RX12, TX12, 38)) yw_X12_gather vw_X12_198 rfl hl.1 rfl (Nat.le_of_ble_eq_true rfl) dX12_factor_132 ⟨Nat.le_of_ble_eq_true rfl, Nat.le_of_ble_eq_true rfl⟩ ⟨Nat.le_refl _, Nat.le_refl _⟩ (fun _ _ q => c_X12_gather q) hX (fun v8 h7 H locs wd hX => ?_)
  refine lv_if_eq (tgt := 146) hx hb dX12_factor_135 rfl (fun hc => (fun hX => ?_) ((mh_if hX).1 hc)) (fun hc => (fun hX => ?_) ((mh_if hX).2 hc))
  · refine lv_iconst (v := (-1)) hx hb dX12_factor_146 (by decide) ?_
    exact w_X12_factor_b147 cx hr _ h7 _ _ ls wd (lv_sub hl [] rfl) hX
  · refine lv_aload_n hx hb dX12_factor_138 rfl (lv_at hl 0 rfl) ?_
    refine lv_iload_n hx hb dX12_factor_139 rfl (lv_at hl 1 rfl) ?_
    refine mh_callVI cx wd [.int x3] (rfl : vwCl[12]? = some (RX12, TX12, 38)) yw_X12_becomes vw_X12_190 rfl hl.1 rfl (Nat.le_of_ble_eq_true rfl) dX12_factor_140 ⟨Nat.le_of_ble_eq_true rfl, Nat.le_of_ble_eq_true rfl⟩ ⟨Nat.le_refl _, Nat.le_refl _⟩ (fun _ _ q => c_X12_becomes q) hX (fun v10 h9 H locs wd hX => ?_)
    refine lv_goto (tgt := 147) hx hb dX12_factor_143 rfl ?_
    exact w_X12_factor_b147 cx hr _ h9 _ _ ls wd (lv_sub hl [] rfl) hX
set_option maxRecDepth 100000 in
set_option maxHeartbeats 4000000 in
theorem w_X12_factor_b62 {p : Program} {l : Launch} {e : Env} {s : State} {m : MethodId} {args : Array Value} {below : List Frame} {meth : Method} {c : Code} {D : va_G} {ks : Nat → ClassId} {L : List Nat} {r : Int32} {h' : mh_H} (cx : mh_C p m c cX12_factor 8 s args RX12 meth D ks (mh_A L s.heap.size)) (hr : meth.sig.returnType = (some .int)) :
    ∀ n : Nat, ∀ (o0 : Nat) (x2 : Int32) (x3 : Int32) (x4 : Int32) (x5 : Int32) (h : mh_H) (H : Heap) (locs : List Loc) (ls : Array Slot), mh_W D ks L (mh_A L s.heap.size) s.heap h H locs → lv_has ls 8 [(0, .ref o0), (2, .int x2), (3, .int x3), (4, .int x4), (5, .int x5)] → f_X12_factor_b62 n o0 x2 x3 x4 x5 h = some (r, h') → W p l e (mh_rm 2) s m args below meth c H locs 0 0 (MQ below (mh_Qi D ks L s.heap.size r h') args s 0 0 (mh_A L s.heap.size)) (F0 m 62 ls []) := by
  intro n
  induction n with
  | zero =>
    intro o0 x2 x3 x4 x5 h H locs ls wd hl hX
    cases hX
  | succ n ih =>
    intro o0 x2 x3 x4 x5 h H locs ls wd hl hX
    have hx := cx.1.1
    have hb := cx.1.2.1
    rw [f_X12_factor_b62] at hX
    refine lv_iload hx hb dX12_factor_62 (lv_at hl 4 rfl) ?_
    refine mh_ldc cx kc_X12_193 dX12_factor_64 ?_
    refine lv_icmp_gt (tgt := 131) hx hb dX12_factor_66 rfl (fun hc => (fun hX => ?_) ((mh_if hX).1 hc)) (fun hc => (fun hX => ?_) ((mh_if hX).2 hc))
    · exact w_X12_factor_b131 cx hr _ _ h _ _ ls wd (lv_sub hl [0, 2] rfl) hX
    · refine lv_iload_n hx hb dX12_factor_69 rfl (lv_at hl 1 rfl) ?_
      refine lv_i2l hx hb dX12_factor_70 rfl ?_
      refine lv_iload hx hb dX12_factor_71 (lv_at hl 4 rfl) ?_
      refine lv_i2l hx hb dX12_factor_73 rfl ?_
      refine lv_lmul hx hb dX12_factor_74 ?_
      refine mh_topl hX (fun w11 hX => ?_)
      refine lv_lstore (lv' := [(6, .long w11), (0, .ref o0), (2, .int x2), (3, .int x3), (4, .int x4), (5, .int x5)]) hx hb dX12_factor_75 hl (Nat.le_of_ble_eq_true rfl) rfl (fun ls hl => ?_)
      refine lv_aload_n hx hb dX12_factor_77 rfl (lv_at hl 1 rfl) ?_
      refine mh_getR cx wd fl_X12_37 dX12_factor_78 hX (fun a12 hX => ?_)
      refine lv_iload hx hb dX12_factor_81 (lv_at hl 5 rfl) ?_
      refine lv_lload hx hb dX12_factor_83 (lv_at hl 0 rfl) ?_
      refine mh_ldc2 cx kl_X12_202 dX12_factor_85 ?_
      refine W.lcmp hx hb dX12_factor_88 ?_
      refine lv_if_gt (tgt := 103) hx hb dX12_factor_89 rfl (fun hc => (fun hX => ?_) ((mh_if hX).1 hc)) (fun hc => (fun hX => ?_) ((mh_if hX).2 hc))
      · refine lv_iload hx hb dX12_factor_103 (lv_at hl 4 rfl) ?_
        refine lv_if_le (tgt := 123) hx hb dX12_factor_105 rfl (fun hc => (fun hX => ?_) ((mh_if hX).1 hc)) (fun hc => (fun hX => ?_) ((mh_if hX).2 hc))
        · exact w_X12_factor_b123 (f_X12_factor_b124 (f_X12_factor_b62 n)) cx hr (w_X12_factor_b124 (f_X12_factor_b62 n) cx hr ih) _ _ _ _ _ _ _ h _ _ ls wd (lv_sub hl [1, 2, 3, 4, 5] rfl) hX
        · refine lv_lload hx hb dX12_factor_108 (lv_at hl 0 rfl) ?_
          refine lv_iload hx hb dX12_factor_110 (lv_at hl 4 rfl) ?_
          refine lv_i2l hx hb dX12_factor_112 rfl ?_
          obtain ⟨hz, hX⟩ := mh_nzk hX
          refine lv_lrem hx hb dX12_factor_113 hz ?_
          refine lv_lconst (v := 0) hx hb dX12_factor_114 (by decide) ?_
          refine W.lcmp hx hb dX12_factor_115 ?_
          refine lv_if_ne (tgt := 123) hx hb dX12_factor_116 rfl (fun hc => (fun hX => ?_) ((mh_if hX).2 hc)) (fun hc => (fun hX => ?_) ((mh_if hX).1 hc))
          · exact w_X12_factor_b123 (f_X12_factor_b124 (f_X12_factor_b62 n)) cx hr (w_X12_factor_b124 (f_X12_factor_b62 n) cx hr ih) _ _ _ _ _ _ _ h _ _ ls wd (lv_sub hl [1, 2, 3, 4, 5] rfl) hX
          · refine lv_iconst (v := 1) hx hb dX12_factor_119 (by decide) ?_
            refine lv_goto (tgt := 124) hx hb dX12_factor_120 rfl ?_
            exact w_X12_factor_b124 (f_X12_factor_b62 n) cx hr ih _ _ _ _ _ _ _ _ h _ _ ls wd (lv_sub hl [1, 2, 3, 4, 5] rfl) hX
      · refine lv_aload_n hx hb dX12_factor_92 rfl (lv_at hl 1 rfl) ?_
        refine mh_getR cx wd fl_X12_30 dX12_factor_93 hX (fun a13 hX => ?_)
        refine lv_lload hx hb dX12_factor_96 (lv_at hl 0 rfl) ?_
        refine lv_l2i hx hb dX12_factor_98 rfl ?_
        refine mh_zald cx wd dX12_factor_99 hX (fun v14 hX => ?_)
        refine lv_goto (tgt := 124) hx hb dX12_factor_100 rfl ?_
        exact w_X12_factor_b124 (f_X12_factor_b62 n) cx hr ih _ _ _ _ _ _ _ _ h _ _ ls wd (lv_sub hl [1, 2, 3, 4, 5] rfl) hX
set_option maxRecDepth 100000 in
set_option maxHeartbeats 4000000 in
theorem w_X12_factor_e {p : Program} {l : Launch} {e : Env} {s : State} {m : MethodId} {args : Array Value} {below : List Frame} {meth : Method} {c : Code} {D : va_G} {ks : Nat → ClassId} {L : List Nat} {r : Int32} {h' : mh_H} (cx : mh_C p m c cX12_factor 8 s args RX12 meth D ks (mh_A L s.heap.size)) (hr : meth.sig.returnType = (some .int)) :
    ∀ (o0 : Nat) (x1 : Int32) (x2 : Int32) (x3 : Int32) (h : mh_H) (H : Heap) (locs : List Loc) (ls : Array Slot), mh_W D ks L (mh_A L s.heap.size) s.heap h H locs → lv_has ls 8 [(0, .ref o0), (1, .int x1), (2, .int x2), (3, .int x3)] → f_X12_factor_e o0 x1 x2 x3 h = some (r, h') → W p l e (mh_rm 2) s m args below meth c H locs 0 0 (MQ below (mh_Qi D ks L s.heap.size r h') args s 0 0 (mh_A L s.heap.size)) (F0 m 0 ls []) := by
  intro o0 x1 x2 x3 h H locs ls wd hl hX
  have hx := cx.1.1
  have hb := cx.1.2.1
  unfold f_X12_factor_e at hX
  refine lv_aload_n hx hb dX12_factor_0 rfl (lv_at hl 0 rfl) ?_
  refine lv_iconst (v := 0) hx hb dX12_factor_1 (by decide) ?_
  refine mh_putI cx wd fp_X12_96 dX12_factor_2 hX (fun h15 H locs wd hX => ?_)
  refine lv_iload_n hx hb dX12_factor_5 rfl (lv_at hl 1 rfl) ?_
  refine mh_callSI cx wd [.int x1] yw_X12_isMint sw_X12_111 rfl hl.1 rfl (Nat.le_of_ble_eq_true rfl) dX12_factor_6 ⟨Nat.le_of_ble_eq_true rfl, Nat.le_of_ble_eq_true rfl⟩ ⟨Nat.le_refl _, Nat.le_refl _⟩ (fun _ _ q => c_X12_isMint q) hX (fun v17 h16 H locs wd hX => ?_)
  refine lv_if_eq (tgt := 19) hx hb dX12_factor_9 rfl (fun hc => (fun hX => ?_) ((mh_if hX).1 hc)) (fun hc => (fun hX => ?_) ((mh_if hX).2 hc))
  · exact w_X12_factor_b19 cx hr _ h16 _ _ ls wd (lv_sub hl [0] rfl) hX
  · refine lv_iload_n hx hb dX12_factor_12 rfl (lv_at hl 3 rfl) ?_
    refine mh_callSI cx wd [.int x3] yw_X12_isMint sw_X12_111 rfl hl.1 rfl (Nat.le_of_ble_eq_true rfl) dX12_factor_13 ⟨Nat.le_of_ble_eq_true rfl, Nat.le_of_ble_eq_true rfl⟩ ⟨Nat.le_refl _, Nat.le_refl _⟩ (fun _ _ q => c_X12_isMint q) hX (fun v19 h18 H locs wd hX => ?_)
    refine lv_if_ne (tgt := 25) hx hb dX12_factor_16 rfl (fun hc => (fun hX => ?_) ((mh_if hX).2 hc)) (fun hc => (fun hX => ?_) ((mh_if hX).1 hc))
    · refine lv_iload_n hx hb dX12_factor_25 rfl (lv_at hl 2 rfl) ?_
      refine lv_iconst (v := 1) hx hb dX12_factor_26 (by decide) ?_
      refine lv_icmp_lt (tgt := 37) hx hb dX12_factor_27 rfl (fun hc => (fun hX => ?_) ((mh_if hX).1 hc)) (fun hc => (fun hX => ?_) ((mh_if hX).2 hc))
      · exact w_X12_factor_b37 cx hr _ h18 _ _ ls wd (lv_sub hl [0] rfl) hX
      · refine lv_iload_n hx hb dX12_factor_30 rfl (lv_at hl 2 rfl) ?_
        refine lv_sipush (v := 300) hx hb dX12_factor_31 (by decide) ?_
        refine lv_icmp_le (tgt := 43) hx hb dX12_factor_34 rfl (fun hc => (fun hX => ?_) ((mh_if hX).1 hc)) (fun hc => (fun hX => ?_) ((mh_if hX).2 hc))
        · refine lv_aload_n hx hb dX12_factor_43 rfl (lv_at hl 0 rfl) ?_
          refine lv_iload_n hx hb dX12_factor_44 rfl (lv_at hl 1 rfl) ?_
          refine lv_aload_n hx hb dX12_factor_45 rfl (lv_at hl 0 rfl) ?_
          refine mh_getR cx wd fl_X12_30 dX12_factor_46 hX (fun a20 hX => ?_)
          refine mh_callVV cx wd [.int x1, .ref a20] (rfl : vwCl[12]? = some (RX12, TX12, 38)) yw_X12_spread vw_X12_194 rfl hl.1 rfl (Nat.le_of_ble_eq_true rfl) dX12_factor_49 ⟨Nat.le_of_ble_eq_true rfl, Nat.le_of_ble_eq_true rfl⟩ ⟨Nat.le_refl _, Nat.le_refl _⟩ (fun _ q => c_X12_spread q) hX (fun h21 H locs wd hX => ?_)
          refine lv_aload_n hx hb dX12_factor_52 rfl (lv_at hl 0 rfl) ?_
          refine lv_iload_n hx hb dX12_factor_53 rfl (lv_at hl 1 rfl) ?_
          refine mh_callVI cx wd [.int x1] (rfl : vwCl[12]? = some (RX12, TX12, 38)) yw_X12_divisorOf vw_X12_168 rfl hl.1 rfl (Nat.le_of_ble_eq_true rfl) dX12_factor_54 ⟨Nat.le_of_ble_eq_true rfl, Nat.le_of_ble_eq_true rfl⟩ ⟨Nat.le_refl _, Nat.le_refl _⟩ (fun _ _ q => c_X12_divisorOf q) hX (fun v23 h22 H locs wd hX => ?_)
          refine lv_istore (lv' := [(4, .int v23), (0, .ref o0), (1, .int x1), (2, .int x2), (3, .int x3)]) hx hb dX12_factor_57 hl (Nat.le_of_ble_eq_true rfl) rfl (fun ls hl => ?_)
          refine lv_iconst (v := 0) hx hb dX12_factor_59 (by decide) ?_
          refine mh_topi hX (fun v24 hX => ?_)
          refine lv_istore (lv' := [(5, .int v24), (4, .int v23), (0, .ref o0), (1, .int x1), (2, .int x2), (3, .int x3)]) hx hb dX12_factor_60 hl (Nat.le_of_ble_eq_true rfl) rfl (fun ls hl => ?_)
          exact w_X12_factor_b62 cx hr mh_fu _ _ _ _ _ h22 _ _ ls wd (lv_sub hl [2, 4, 5, 1, 0] rfl) hX
        · exact w_X12_factor_b37 cx hr _ h18 _ _ ls wd (lv_sub hl [0] rfl) hX
    · exact w_X12_factor_b19 cx hr _ h18 _ _ ls wd (lv_sub hl [0] rfl) hX
set_option maxRecDepth 100000 in
theorem c_X12_factor {l : Launch} {L : List Nat} {h h' : mh_H} {r : Int32} {o0 : Nat} {x1 : Int32} {x2 : Int32} {x3 : Int32} (hX : f_X12_factor_e o0 x1 x2 x3 h = some (r, h')) : mh_MI l yX12_factor (Cond.code yX12_factor cX12_factor 8 (some .int) :: mh_TB) (mh_rm 2) [.ref o0, .int x1, .int x2, .int x3] L h r h' :=
  mh_of (mc := 0) (ms := 0) (Qc := fun D ks sz => mh_Qi D ks L sz r h') (plainFor_of_name (by decide)) (Nat.le_of_ble_eq_true rfl) (fun p e s m below meth c D ks ls hr cx wd hl => by
    have hl : lv_has ls 8 [(0, .ref o0), (1, .int x1), (2, .int x2), (3, .int x3)] := hl
    exact w_X12_factor_e cx hr o0 x1 x2 x3 h _ _ ls wd hl hX)
def f_X12_count_b29 (k3 : Nat → Nat → Int32 → Int32 → Int32 → mh_H → Option mh_H) (o0 : Nat) (o1 : Nat) (x2 : Int32) (x3 : Int32) (x4 : Int32) (t0 : Nat) (t1 : Int32) (t2 : Int64) (h : mh_H) : Option mh_H :=
  (mh_sJ h t0 t1 t2).bind fun h1 =>
  mh_nm (x4 + Int32.ofInt (1)) fun v2 =>
  k3 o0 o1 x2 x3 v2 h1
def f_X12_count_b102 (k58 : Nat → Nat → Int32 → Int32 → Int32 → Int32 → Int32 → mh_H → Option mh_H) (o0 : Nat) (o1 : Nat) (x2 : Int32) (x3 : Int32) (x4 : Int32) (x5 : Int32) (x6 : Int32) (t0 : Int64) (t1 : Int64) (h : mh_H) : Option mh_H :=
  mh_nm (t0 + t1) fun w3 =>
  (mh_gR h o0 12 12).bind fun a4 =>
  (mh_aR h a4 6 x4).bind fun a5 =>
  (mh_sJ h a5 x6 (if (4000000000000000001 : Int64) < w3 then (4000000000000000001 : Int64) else w3)).bind fun h6 =>
  mh_nm (x6 + Int32.ofInt (1)) fun v7 =>
  k58 o0 o1 x2 x3 x4 x5 v7 h6
def f_X12_count_b129 (k39 : Nat → Nat → Int32 → Int32 → Int32 → mh_H → Option mh_H) (o0 : Nat) (o1 : Nat) (x2 : Int32) (x3 : Int32) (x4 : Int32) (h : mh_H) : Option mh_H :=
  mh_nm (x4 + Int32.ofInt (1)) fun v8 =>
  k39 o0 o1 x2 x3 v8 h
def f_X12_count_b58 (k39 : Nat → Nat → Int32 → Int32 → Int32 → mh_H → Option mh_H) : Nat → Nat → Nat → Int32 → Int32 → Int32 → Int32 → Int32 → mh_H → Option mh_H
  | 0, _, _, _, _, _, _, _, _ => none
  | n + 1, o0, o1, x2, x3, x4, x5, x6, h =>
    if (3001 : Int32) ≤ x6 then (
    f_X12_count_b129 k39 o0 o1 x2 x3 x4 h) else
    (mh_gR h o0 12 12).bind fun a9 =>
    (mh_aR h a9 6 (x4 - (1 : Int32))).bind fun a10 =>
    (mh_aJ h a10 x6).bind fun w11 =>
    if x6 < x5 then (
    f_X12_count_b102 (f_X12_count_b58 k39 n) o0 o1 x2 x3 x4 x5 x6 w11 (0 : Int64) h) else
    (mh_gR h o0 12 12).bind fun a12 =>
    (mh_aR h a12 6 x4).bind fun a13 =>
    (mh_aJ h a13 (x6 - x5)).bind fun w14 =>
    f_X12_count_b102 (f_X12_count_b58 k39 n) o0 o1 x2 x3 x4 x5 x6 w11 w14 h
def f_X12_count_b135 (h : mh_H) : Option mh_H :=
  some h
def f_X12_count_b39 : Nat → Nat → Nat → Int32 → Int32 → Int32 → mh_H → Option mh_H
  | 0, _, _, _, _, _, _ => none
  | n + 1, o0, o1, x2, x3, x4, h =>
    if x3 < x4 then (
    f_X12_count_b135 h) else
    (mh_aI h o1 0 ((x2 + x4) - (1 : Int32))).bind fun v15 =>
    mh_nm (0 : Int32) fun v16 =>
    f_X12_count_b58 (f_X12_count_b39 n) mh_fu o0 o1 x2 x3 x4 v15 v16 h
def f_X12_count_b36 (o0 : Nat) (o1 : Nat) (x2 : Int32) (x3 : Int32) (h : mh_H) : Option mh_H :=
  mh_nm (1 : Int32) fun v17 =>
  f_X12_count_b39 mh_fu o0 o1 x2 x3 v17 h
def f_X12_count_b3 : Nat → Nat → Nat → Int32 → Int32 → Int32 → mh_H → Option mh_H
  | 0, _, _, _, _, _, _ => none
  | n + 1, o0, o1, x2, x3, x4, h =>
    if (3001 : Int32) ≤ x4 then (
    f_X12_count_b36 o0 o1 x2 x3 h) else
    (mh_gR h o0 12 12).bind fun a18 =>
    (mh_aR h a18 6 (0 : Int32)).bind fun a19 =>
    if x4 = 0 then (
    f_X12_count_b29 (f_X12_count_b3 n) o0 o1 x2 x3 x4 a19 x4 (1 : Int64) h) else
    f_X12_count_b29 (f_X12_count_b3 n) o0 o1 x2 x3 x4 a19 x4 (0 : Int64) h
def f_X12_count_e (o0 : Nat) (o1 : Nat) (x2 : Int32) (x3 : Int32) (h : mh_H) : Option mh_H :=
  mh_nm (0 : Int32) fun v20 =>
  f_X12_count_b3 mh_fu o0 o1 x2 x3 v20 h
set_option maxRecDepth 100000 in
set_option maxHeartbeats 4000000 in
theorem w_X12_count_b29 {p : Program} {l : Launch} {e : Env} {s : State} {m : MethodId} {args : Array Value} {below : List Frame} {meth : Method} {c : Code} {D : va_G} {ks : Nat → ClassId} {L : List Nat} {h' : mh_H} (k3 : Nat → Nat → Int32 → Int32 → Int32 → mh_H → Option mh_H) (cx : mh_C p m c cX12_count 9 s args RX12 meth D ks (mh_A L s.heap.size)) (hr : meth.sig.returnType = none)
    (hk3 : ∀ (o0 : Nat) (o1 : Nat) (x2 : Int32) (x3 : Int32) (x4 : Int32) (h : mh_H) (H : Heap) (locs : List Loc) (ls : Array Slot), mh_W D ks L (mh_A L s.heap.size) s.heap h H locs → lv_has ls 9 [(0, .ref o0), (1, .ref o1), (2, .int x2), (3, .int x3), (4, .int x4)] → k3 o0 o1 x2 x3 x4 h = some h' → W p l e (mh_rm 1) s m args below meth c H locs 0 0 (MQ below (mh_Qv D ks L s.heap.size h') args s 0 0 (mh_A L s.heap.size)) (F0 m 3 ls [])) :
    ∀ (o0 : Nat) (o1 : Nat) (x2 : Int32) (x3 : Int32) (x4 : Int32) (t0 : Nat) (t1 : Int32) (t2 : Int64) (h : mh_H) (H : Heap) (locs : List Loc) (ls : Array Slot), mh_W D ks L (mh_A L s.heap.size) s.heap h H locs → lv_has ls 9 [(0, .ref o0), (1, .ref o1), (2, .int x2), (3, .int x3), (4, .int x4)] → f_X12_count_b29 k3 o0 o1 x2 x3 x4 t0 t1 t2 h = some h' → W p l e (mh_rm 1) s m args below meth c H locs 0 0 (MQ below (mh_Qv D ks L s.heap.size h') args s 0 0 (mh_A L s.heap.size)) (F0 m 29 ls [.long t2, .int t1, .ref t0]) := by
  intro o0 o1 x2 x3 x4 t0 t1 t2 h H locs ls wd hl hX
  have hx := cx.1.1
  have hb := cx.1.2.1
  unfold f_X12_count_b29 at hX
  refine mh_last cx wd dX12_count_29 hX (fun h1 H locs wd hX => ?_)
  obtain ⟨v2, ev2, hX⟩ := mh_nmx hX
  refine lv_iinc (k := 4) (v := v2) (lv' := [(4, .int v2), (0, .ref o0), (1, .ref o1), (2, .int x2), (3, .int x3)]) hx hb dX12_count_30 hl rfl ev2 (Nat.le_of_ble_eq_true rfl) rfl (fun ls hl => ?_)
  refine lv_goto (tgt := 3) hx hb dX12_count_33 rfl ?_
  exact hk3 _ _ _ _ _ h1 _ _ ls wd (lv_sub hl [1, 2, 3, 4, 0] rfl) hX
set_option maxRecDepth 100000 in
set_option maxHeartbeats 4000000 in
theorem w_X12_count_b102 {p : Program} {l : Launch} {e : Env} {s : State} {m : MethodId} {args : Array Value} {below : List Frame} {meth : Method} {c : Code} {D : va_G} {ks : Nat → ClassId} {L : List Nat} {h' : mh_H} (k58 : Nat → Nat → Int32 → Int32 → Int32 → Int32 → Int32 → mh_H → Option mh_H) (cx : mh_C p m c cX12_count 9 s args RX12 meth D ks (mh_A L s.heap.size)) (hr : meth.sig.returnType = none)
    (hk58 : ∀ (o0 : Nat) (o1 : Nat) (x2 : Int32) (x3 : Int32) (x4 : Int32) (x5 : Int32) (x6 : Int32) (h : mh_H) (H : Heap) (locs : List Loc) (ls : Array Slot), mh_W D ks L (mh_A L s.heap.size) s.heap h H locs → lv_has ls 9 [(0, .ref o0), (1, .ref o1), (2, .int x2), (3, .int x3), (4, .int x4), (5, .int x5), (6, .int x6)] → k58 o0 o1 x2 x3 x4 x5 x6 h = some h' → W p l e (mh_rm 1) s m args below meth c H locs 0 0 (MQ below (mh_Qv D ks L s.heap.size h') args s 0 0 (mh_A L s.heap.size)) (F0 m 58 ls [])) :
    ∀ (o0 : Nat) (o1 : Nat) (x2 : Int32) (x3 : Int32) (x4 : Int32) (x5 : Int32) (x6 : Int32) (t0 : Int64) (t1 : Int64) (h : mh_H) (H : Heap) (locs : List Loc) (ls : Array Slot), mh_W D ks L (mh_A L s.heap.size) s.heap h H locs → lv_has ls 9 [(0, .ref o0), (1, .ref o1), (2, .int x2), (3, .int x3), (4, .int x4), (5, .int x5), (6, .int x6)] → f_X12_count_b102 k58 o0 o1 x2 x3 x4 x5 x6 t0 t1 h = some h' → W p l e (mh_rm 1) s m args below meth c H locs 0 0 (MQ below (mh_Qv D ks L s.heap.size h') args s 0 0 (mh_A L s.heap.size)) (F0 m 102 ls [.long t1, .long t0]) := by
  intro o0 o1 x2 x3 x4 x5 x6 t0 t1 h H locs ls wd hl hX
  have hx := cx.1.1
  have hb := cx.1.2.1
  unfold f_X12_count_b102 at hX
  refine lv_ladd hx hb dX12_count_102 ?_
  refine mh_topl hX (fun w3 hX => ?_)
  refine lv_lstore (lv' := [(7, .long w3), (0, .ref o0), (1, .ref o1), (2, .int x2), (3, .int x3), (4, .int x4), (5, .int x5), (6, .int x6)]) hx hb dX12_count_103 hl (Nat.le_of_ble_eq_true rfl) rfl (fun ls hl => ?_)
  refine lv_aload_n hx hb dX12_count_105 rfl (lv_at hl 1 rfl) ?_
  refine mh_getR cx wd fl_X12_42 dX12_count_106 hX (fun a4 hX => ?_)
  refine lv_iload hx hb dX12_count_109 (lv_at hl 5 rfl) ?_
  refine mh_aald cx wd 6 rfl rfl dX12_count_111 hX (fun a5 hX => ?_)
  refine lv_iload hx hb dX12_count_112 (lv_at hl 7 rfl) ?_
  refine lv_lload hx hb dX12_count_114 (lv_at hl 0 rfl) ?_
  refine mh_ldc2 cx kl_X12_204 dX12_count_116 ?_
  refine mh_mminl mh_Mok cx hl.1 km_X12_206 (Nat.le_of_ble_eq_true rfl) (Nat.le_of_ble_eq_true rfl) ⟨Nat.le_refl _, Nat.le_refl _⟩ dX12_count_119 ?_
  refine mh_last cx wd dX12_count_122 hX (fun h6 H locs wd hX => ?_)
  obtain ⟨v7, ev7, hX⟩ := mh_nmx hX
  refine lv_iinc (k := 7) (v := v7) (lv' := [(6, .int v7), (7, .long w3), (0, .ref o0), (1, .ref o1), (2, .int x2), (3, .int x3), (4, .int x4), (5, .int x5)]) hx hb dX12_count_123 hl rfl ev7 (Nat.le_of_ble_eq_true rfl) rfl (fun ls hl => ?_)
  refine lv_goto (tgt := 58) hx hb dX12_count_126 rfl ?_
  exact hk58 _ _ _ _ _ _ _ h6 _ _ ls wd (lv_sub hl [2, 3, 4, 5, 6, 7, 0] rfl) hX
set_option maxRecDepth 100000 in
set_option maxHeartbeats 4000000 in
theorem w_X12_count_b129 {p : Program} {l : Launch} {e : Env} {s : State} {m : MethodId} {args : Array Value} {below : List Frame} {meth : Method} {c : Code} {D : va_G} {ks : Nat → ClassId} {L : List Nat} {h' : mh_H} (k39 : Nat → Nat → Int32 → Int32 → Int32 → mh_H → Option mh_H) (cx : mh_C p m c cX12_count 9 s args RX12 meth D ks (mh_A L s.heap.size)) (hr : meth.sig.returnType = none)
    (hk39 : ∀ (o0 : Nat) (o1 : Nat) (x2 : Int32) (x3 : Int32) (x4 : Int32) (h : mh_H) (H : Heap) (locs : List Loc) (ls : Array Slot), mh_W D ks L (mh_A L s.heap.size) s.heap h H locs → lv_has ls 9 [(0, .ref o0), (1, .ref o1), (2, .int x2), (3, .int x3), (4, .int x4)] → k39 o0 o1 x2 x3 x4 h = some h' → W p l e (mh_rm 1) s m args below meth c H locs 0 0 (MQ below (mh_Qv D ks L s.heap.size h') args s 0 0 (mh_A L s.heap.size)) (F0 m 39 ls [])) :
    ∀ (o0 : Nat) (o1 : Nat) (x2 : Int32) (x3 : Int32) (x4 : Int32) (h : mh_H) (H : Heap) (locs : List Loc) (ls : Array Slot), mh_W D ks L (mh_A L s.heap.size) s.heap h H locs → lv_has ls 9 [(0, .ref o0), (1, .ref o1), (2, .int x2), (3, .int x3), (4, .int x4)] → f_X12_count_b129 k39 o0 o1 x2 x3 x4 h = some h' → W p l e (mh_rm 1) s m args below meth c H locs 0 0 (MQ below (mh_Qv D ks L s.heap.size h') args s 0 0 (mh_A L s.heap.size)) (F0 m 129 ls []) := by
  intro o0 o1 x2 x3 x4 h H locs ls wd hl hX
  have hx := cx.1.1
  have hb := cx.1.2.1
  unfold f_X12_count_b129 at hX
  obtain ⟨v8, ev8, hX⟩ := mh_nmx hX
  refine lv_iinc (k := 4) (v := v8) (lv' := [(4, .int v8), (0, .ref o0), (1, .ref o1), (2, .int x2), (3, .int x3)]) hx hb dX12_count_129 hl rfl ev8 (Nat.le_of_ble_eq_true rfl) rfl (fun ls hl => ?_)
  refine lv_goto (tgt := 39) hx hb dX12_count_132 rfl ?_
  exact hk39 _ _ _ _ _ h _ _ ls wd (lv_sub hl [1, 2, 3, 4, 0] rfl) hX
set_option maxRecDepth 100000 in
set_option maxHeartbeats 4000000 in
theorem w_X12_count_b58 {p : Program} {l : Launch} {e : Env} {s : State} {m : MethodId} {args : Array Value} {below : List Frame} {meth : Method} {c : Code} {D : va_G} {ks : Nat → ClassId} {L : List Nat} {h' : mh_H} (k39 : Nat → Nat → Int32 → Int32 → Int32 → mh_H → Option mh_H) (cx : mh_C p m c cX12_count 9 s args RX12 meth D ks (mh_A L s.heap.size)) (hr : meth.sig.returnType = none)
    (hk39 : ∀ (o0 : Nat) (o1 : Nat) (x2 : Int32) (x3 : Int32) (x4 : Int32) (h : mh_H) (H : Heap) (locs : List Loc) (ls : Array Slot), mh_W D ks L (mh_A L s.heap.size) s.heap h H locs → lv_has ls 9 [(0, .ref o0), (1, .ref o1), (2, .int x2), (3, .int x3), (4, .int x4)] → k39 o0 o1 x2 x3 x4 h = some h' → W p l e (mh_rm 1) s m args below meth c H locs 0 0 (MQ below (mh_Qv D ks L s.heap.size h') args s 0 0 (mh_A L s.heap.size)) (F0 m 39 ls [])) :
    ∀ n : Nat, ∀ (o0 : Nat) (o1 : Nat) (x2 : Int32) (x3 : Int32) (x4 : Int32) (x5 : Int32) (x6 : Int32) (h : mh_H) (H : Heap) (locs : List Loc) (ls : Array Slot), mh_W D ks L (mh_A L s.heap.size) s.heap h H locs → lv_has ls 9 [(0, .ref o0), (1, .ref o1), (2, .int x2), (3, .int x3), (4, .int x4), (5, .int x5), (6, .int x6)] → f_X12_count_b58 k39 n o0 o1 x2 x3 x4 x5 x6 h = some h' → W p l e (mh_rm 1) s m args below meth c H locs 0 0 (MQ below (mh_Qv D ks L s.heap.size h') args s 0 0 (mh_A L s.heap.size)) (F0 m 58 ls []) := by
  intro n
  induction n with
  | zero =>
    intro o0 o1 x2 x3 x4 x5 x6 h H locs ls wd hl hX
    cases hX
  | succ n ih =>
    intro o0 o1 x2 x3 x4 x5 x6 h H locs ls wd hl hX
    have hx := cx.1.1
    have hb := cx.1.2.1
    rw [f_X12_count_b58] at hX
    refine lv_iload hx hb dX12_count_58 (lv_at hl 6 rfl) ?_
    refine lv_sipush (v := 3001) hx hb dX12_count_60 (by decide) ?_
    refine lv_icmp_ge (tgt := 129) hx hb dX12_count_63 rfl (fun hc => (fun hX => ?_) ((mh_if hX).1 hc)) (fun hc => (fun hX => ?_) ((mh_if hX).2 hc))
    · exact w_X12_count_b129 k39 cx hr hk39 _ _ _ _ _ h _ _ ls wd (lv_sub hl [0, 1, 2, 3, 4] rfl) hX
    · refine lv_aload_n hx hb dX12_count_66 rfl (lv_at hl 0 rfl) ?_
      refine mh_getR cx wd fl_X12_42 dX12_count_67 hX (fun a9 hX => ?_)
      refine lv_iload hx hb dX12_count_70 (lv_at hl 4 rfl) ?_
      refine lv_iconst (v := 1) hx hb dX12_count_72 (by decide) ?_
      refine lv_isub hx hb dX12_count_73 ?_
      refine mh_aald cx wd 6 rfl rfl dX12_count_74 hX (fun a10 hX => ?_)
      refine lv_iload hx hb dX12_count_75 (lv_at hl 6 rfl) ?_
      refine mh_lald cx wd dX12_count_77 hX (fun w11 hX => ?_)
      refine lv_iload hx hb dX12_count_78 (lv_at hl 6 rfl) ?_
      refine lv_iload hx hb dX12_count_80 (lv_at hl 5 rfl) ?_
      refine lv_icmp_lt (tgt := 101) hx hb dX12_count_82 rfl (fun hc => (fun hX => ?_) ((mh_if hX).1 hc)) (fun hc => (fun hX => ?_) ((mh_if hX).2 hc))
      · refine lv_lconst (v := 0) hx hb dX12_count_101 (by decide) ?_
        exact w_X12_count_b102 (f_X12_count_b58 k39 n) cx hr ih _ _ _ _ _ _ _ _ _ h _ _ ls wd (lv_sub hl [0, 1, 2, 3, 4, 5, 6] rfl) hX
      · refine lv_aload_n hx hb dX12_count_85 rfl (lv_at hl 0 rfl) ?_
        refine mh_getR cx wd fl_X12_42 dX12_count_86 hX (fun a12 hX => ?_)
        refine lv_iload hx hb dX12_count_89 (lv_at hl 4 rfl) ?_
        refine mh_aald cx wd 6 rfl rfl dX12_count_91 hX (fun a13 hX => ?_)
        refine lv_iload hx hb dX12_count_92 (lv_at hl 6 rfl) ?_
        refine lv_iload hx hb dX12_count_94 (lv_at hl 5 rfl) ?_
        refine lv_isub hx hb dX12_count_96 ?_
        refine mh_lald cx wd dX12_count_97 hX (fun w14 hX => ?_)
        refine lv_goto (tgt := 102) hx hb dX12_count_98 rfl ?_
        exact w_X12_count_b102 (f_X12_count_b58 k39 n) cx hr ih _ _ _ _ _ _ _ _ _ h _ _ ls wd (lv_sub hl [0, 1, 2, 3, 4, 5, 6] rfl) hX
set_option maxRecDepth 100000 in
set_option maxHeartbeats 4000000 in
theorem w_X12_count_b135 {p : Program} {l : Launch} {e : Env} {s : State} {m : MethodId} {args : Array Value} {below : List Frame} {meth : Method} {c : Code} {D : va_G} {ks : Nat → ClassId} {L : List Nat} {h' : mh_H} (cx : mh_C p m c cX12_count 9 s args RX12 meth D ks (mh_A L s.heap.size)) (hr : meth.sig.returnType = none) :
    ∀ (h : mh_H) (H : Heap) (locs : List Loc) (ls : Array Slot), mh_W D ks L (mh_A L s.heap.size) s.heap h H locs → lv_has ls 9 [] → f_X12_count_b135  h = some h' → W p l e (mh_rm 1) s m args below meth c H locs 0 0 (MQ below (mh_Qv D ks L s.heap.size h') args s 0 0 (mh_A L s.heap.size)) (F0 m 135 ls []) := by
  intro  h H locs ls wd hl hX
  have hx := cx.1.1
  have hb := cx.1.2.1
  unfold f_X12_count_b135 at hX
  exact mh_vret cx wd hr hX dX12_count_135
set_option maxRecDepth 100000 in
set_option maxHeartbeats 4000000 in
theorem w_X12_count_b39 {p : Program} {l : Launch} {e : Env} {s : State} {m : MethodId} {args : Array Value} {below : List Frame} {meth : Method} {c : Code} {D : va_G} {ks : Nat → ClassId} {L : List Nat} {h' : mh_H} (cx : mh_C p m c cX12_count 9 s args RX12 meth D ks (mh_A L s.heap.size)) (hr : meth.sig.returnType = none) :
    ∀ n : Nat, ∀ (o0 : Nat) (o1 : Nat) (x2 : Int32) (x3 : Int32) (x4 : Int32) (h : mh_H) (H : Heap) (locs : List Loc) (ls : Array Slot), mh_W D ks L (mh_A L s.heap.size) s.heap h H locs → lv_has ls 9 [(0, .ref o0), (1, .ref o1), (2, .int x2), (3, .int x3), (4, .int x4)] → f_X12_count_b39 n o0 o1 x2 x3 x4 h = some h' → W p l e (mh_rm 1) s m args below meth c H locs 0 0 (MQ below (mh_Qv D ks L s.heap.size h') args s 0 0 (mh_A L s.heap.size)) (F0 m 39 ls []) := by
  intro n
  induction n with
  | zero =>
    intro o0 o1 x2 x3 x4 h H locs ls wd hl hX
    cases hX
  | succ n ih =>
    intro o0 o1 x2 x3 x4 h H locs ls wd hl hX
    have hx := cx.1.1
    have hb := cx.1.2.1
    rw [f_X12_count_b39] at hX
    refine lv_iload hx hb dX12_count_39 (lv_at hl 4 rfl) ?_
    refine lv_iload_n hx hb dX12_count_41 rfl (lv_at hl 3 rfl) ?_
    refine lv_icmp_gt (tgt := 135) hx hb dX12_count_42 rfl (fun hc => (fun hX => ?_) ((mh_if hX).1 hc)) (fun hc => (fun hX => ?_) ((mh_if hX).2 hc))
    · exact w_X12_count_b135 cx hr  h _ _ ls wd (lv_sub hl [] rfl) hX
    · refine lv_aload_n hx hb dX12_count_45 rfl (lv_at hl 1 rfl) ?_
      refine lv_iload_n hx hb dX12_count_46 rfl (lv_at hl 2 rfl) ?_
      refine lv_iload hx hb dX12_count_47 (lv_at hl 4 rfl) ?_
      refine lv_iadd hx hb dX12_count_49 ?_
      refine lv_iconst (v := 1) hx hb dX12_count_50 (by decide) ?_
      refine lv_isub hx hb dX12_count_51 ?_
      refine mh_iald cx wd dX12_count_52 hX (fun v15 hX => ?_)
      refine lv_istore (lv' := [(5, .int v15), (0, .ref o0), (1, .ref o1), (2, .int x2), (3, .int x3), (4, .int x4)]) hx hb dX12_count_53 hl (Nat.le_of_ble_eq_true rfl) rfl (fun ls hl => ?_)
      refine lv_iconst (v := 0) hx hb dX12_count_55 (by decide) ?_
      refine mh_topi hX (fun v16 hX => ?_)
      refine lv_istore (lv' := [(6, .int v16), (5, .int v15), (0, .ref o0), (1, .ref o1), (2, .int x2), (3, .int x3), (4, .int x4)]) hx hb dX12_count_56 hl (Nat.le_of_ble_eq_true rfl) rfl (fun ls hl => ?_)
      exact w_X12_count_b58 (f_X12_count_b39 n) cx hr ih mh_fu _ _ _ _ _ _ _ h _ _ ls wd (lv_sub hl [2, 3, 4, 5, 6, 1, 0] rfl) hX
set_option maxRecDepth 100000 in
set_option maxHeartbeats 4000000 in
theorem w_X12_count_b36 {p : Program} {l : Launch} {e : Env} {s : State} {m : MethodId} {args : Array Value} {below : List Frame} {meth : Method} {c : Code} {D : va_G} {ks : Nat → ClassId} {L : List Nat} {h' : mh_H} (cx : mh_C p m c cX12_count 9 s args RX12 meth D ks (mh_A L s.heap.size)) (hr : meth.sig.returnType = none) :
    ∀ (o0 : Nat) (o1 : Nat) (x2 : Int32) (x3 : Int32) (h : mh_H) (H : Heap) (locs : List Loc) (ls : Array Slot), mh_W D ks L (mh_A L s.heap.size) s.heap h H locs → lv_has ls 9 [(0, .ref o0), (1, .ref o1), (2, .int x2), (3, .int x3)] → f_X12_count_b36 o0 o1 x2 x3 h = some h' → W p l e (mh_rm 1) s m args below meth c H locs 0 0 (MQ below (mh_Qv D ks L s.heap.size h') args s 0 0 (mh_A L s.heap.size)) (F0 m 36 ls []) := by
  intro o0 o1 x2 x3 h H locs ls wd hl hX
  have hx := cx.1.1
  have hb := cx.1.2.1
  unfold f_X12_count_b36 at hX
  refine lv_iconst (v := 1) hx hb dX12_count_36 (by decide) ?_
  refine mh_topi hX (fun v17 hX => ?_)
  refine lv_istore (lv' := [(4, .int v17), (0, .ref o0), (1, .ref o1), (2, .int x2), (3, .int x3)]) hx hb dX12_count_37 hl (Nat.le_of_ble_eq_true rfl) rfl (fun ls hl => ?_)
  exact w_X12_count_b39 cx hr mh_fu _ _ _ _ _ h _ _ ls wd (lv_sub hl [1, 2, 3, 4, 0] rfl) hX
set_option maxRecDepth 100000 in
set_option maxHeartbeats 4000000 in
theorem w_X12_count_b3 {p : Program} {l : Launch} {e : Env} {s : State} {m : MethodId} {args : Array Value} {below : List Frame} {meth : Method} {c : Code} {D : va_G} {ks : Nat → ClassId} {L : List Nat} {h' : mh_H} (cx : mh_C p m c cX12_count 9 s args RX12 meth D ks (mh_A L s.heap.size)) (hr : meth.sig.returnType = none) :
    ∀ n : Nat, ∀ (o0 : Nat) (o1 : Nat) (x2 : Int32) (x3 : Int32) (x4 : Int32) (h : mh_H) (H : Heap) (locs : List Loc) (ls : Array Slot), mh_W D ks L (mh_A L s.heap.size) s.heap h H locs → lv_has ls 9 [(0, .ref o0), (1, .ref o1), (2, .int x2), (3, .int x3), (4, .int x4)] → f_X12_count_b3 n o0 o1 x2 x3 x4 h = some h' → W p l e (mh_rm 1) s m args below meth c H locs 0 0 (MQ below (mh_Qv D ks L s.heap.size h') args s 0 0 (mh_A L s.heap.size)) (F0 m 3 ls []) := by
  intro n
  induction n with
  | zero =>
    intro o0 o1 x2 x3 x4 h H locs ls wd hl hX
    cases hX
  | succ n ih =>
    intro o0 o1 x2 x3 x4 h H locs ls wd hl hX
    have hx := cx.1.1
    have hb := cx.1.2.1
    rw [f_X12_count_b3] at hX
    refine lv_iload hx hb dX12_count_3 (lv_at hl 4 rfl) ?_
    refine lv_sipush (v := 3001) hx hb dX12_count_5 (by decide) ?_
    refine lv_icmp_ge (tgt := 36) hx hb dX12_count_8 rfl (fun hc => (fun hX => ?_) ((mh_if hX).1 hc)) (fun hc => (fun hX => ?_) ((mh_if hX).2 hc))
    · exact w_X12_count_b36 cx hr _ _ _ _ h _ _ ls wd (lv_sub hl [0, 1, 2, 3] rfl) hX
    · refine lv_aload_n hx hb dX12_count_11 rfl (lv_at hl 0 rfl) ?_
      refine mh_getR cx wd fl_X12_42 dX12_count_12 hX (fun a18 hX => ?_)
      refine lv_iconst (v := 0) hx hb dX12_count_15 (by decide) ?_
      refine mh_aald cx wd 6 rfl rfl dX12_count_16 hX (fun a19 hX => ?_)
      refine lv_iload hx hb dX12_count_17 (lv_at hl 4 rfl) ?_
      refine lv_iload hx hb dX12_count_19 (lv_at hl 4 rfl) ?_
      refine lv_if_ne (tgt := 28) hx hb dX12_count_21 rfl (fun hc => (fun hX => ?_) ((mh_if hX).2 hc)) (fun hc => (fun hX => ?_) ((mh_if hX).1 hc))
      · refine lv_lconst (v := 0) hx hb dX12_count_28 (by decide) ?_
        exact w_X12_count_b29 (f_X12_count_b3 n) cx hr ih _ _ _ _ _ _ _ _ h _ _ ls wd (lv_sub hl [0, 1, 2, 3, 4] rfl) hX
      · refine lv_lconst (v := 1) hx hb dX12_count_24 (by decide) ?_
        refine lv_goto (tgt := 29) hx hb dX12_count_25 rfl ?_
        exact w_X12_count_b29 (f_X12_count_b3 n) cx hr ih _ _ _ _ _ _ _ _ h _ _ ls wd (lv_sub hl [0, 1, 2, 3, 4] rfl) hX
set_option maxRecDepth 100000 in
set_option maxHeartbeats 4000000 in
theorem w_X12_count_e {p : Program} {l : Launch} {e : Env} {s : State} {m : MethodId} {args : Array Value} {below : List Frame} {meth : Method} {c : Code} {D : va_G} {ks : Nat → ClassId} {L : List Nat} {h' : mh_H} (cx : mh_C p m c cX12_count 9 s args RX12 meth D ks (mh_A L s.heap.size)) (hr : meth.sig.returnType = none) :
    ∀ (o0 : Nat) (o1 : Nat) (x2 : Int32) (x3 : Int32) (h : mh_H) (H : Heap) (locs : List Loc) (ls : Array Slot), mh_W D ks L (mh_A L s.heap.size) s.heap h H locs → lv_has ls 9 [(0, .ref o0), (1, .ref o1), (2, .int x2), (3, .int x3)] → f_X12_count_e o0 o1 x2 x3 h = some h' → W p l e (mh_rm 1) s m args below meth c H locs 0 0 (MQ below (mh_Qv D ks L s.heap.size h') args s 0 0 (mh_A L s.heap.size)) (F0 m 0 ls []) := by
  intro o0 o1 x2 x3 h H locs ls wd hl hX
  have hx := cx.1.1
  have hb := cx.1.2.1
  unfold f_X12_count_e at hX
  refine lv_iconst (v := 0) hx hb dX12_count_0 (by decide) ?_
  refine mh_topi hX (fun v20 hX => ?_)
  refine lv_istore (lv' := [(4, .int v20), (0, .ref o0), (1, .ref o1), (2, .int x2), (3, .int x3)]) hx hb dX12_count_1 hl (Nat.le_of_ble_eq_true rfl) rfl (fun ls hl => ?_)
  exact w_X12_count_b3 cx hr mh_fu _ _ _ _ _ h _ _ ls wd (lv_sub hl [1, 2, 3, 4, 0] rfl) hX
set_option maxRecDepth 100000 in
theorem c_X12_count {l : Launch} {L : List Nat} {h h' : mh_H} {o0 : Nat} {o1 : Nat} {x2 : Int32} {x3 : Int32} (hX : f_X12_count_e o0 o1 x2 x3 h = some h') : mh_MV l yX12_count (Cond.code yX12_count cX12_count 9 none :: mh_TB) (mh_rm 1) [.ref o0, .ref o1, .int x2, .int x3] L h h' :=
  mh_of (mc := 0) (ms := 0) (Qc := fun D ks sz => mh_Qv D ks L sz h') (plainFor_of_name (by decide)) (Nat.le_of_ble_eq_true rfl) (fun p e s m below meth c D ks ls hr cx wd hl => by
    have hl : lv_has ls 9 [(0, .ref o0), (1, .ref o1), (2, .int x2), (3, .int x3)] := hl
    exact w_X12_count_e cx hr o0 o1 x2 x3 h _ _ ls wd hl hX)
def f_X12_ways_b30 (o0 : Nat) (h : mh_H) : Option (Int64 × mh_H) :=
  mh_b2 (mh_cal h o0 12 (f_X12_fail_e o0 (2 : Int32) h)) fun v2 h1 =>
  some ((v2).toInt64, h1)
def f_X12_ways_b92 (t0 : Int64) (h : mh_H) : Option (Int64 × mh_H) :=
  some (t0, h)
def f_X12_ways_e (o0 : Nat) (x1 : Int32) (x2 : Int32) (h : mh_H) : Option (Int64 × mh_H) :=
  (mh_pI h o0 12 0 (0 : Int32)).bind fun h3 =>
  mh_b2 (f_X12_isMint_e x1 h3) fun v5 h4 =>
  if v5 = 0 then (
  mh_b2 (mh_cal h4 o0 12 (f_X12_fail_e o0 (1 : Int32) h4)) fun v22 h21 =>
  some ((v22).toInt64, h21)) else
  if x2 < 0 then (
  f_X12_ways_b30 o0 h4) else
  if x2 < (3001 : Int32) then (
  (mh_gR h4 o0 12 1).bind fun a6 =>
  mh_b2 (f_X12_mintAt_e x1 h4) fun v8 h7 =>
  (mh_gR h7 o0 12 1).bind fun a9 =>
  mh_b2 (f_X12_mintAt_e x1 h7) fun v11 h10 =>
  (mh_aI h10 a9 0 v11).bind fun v12 =>
  (mh_cal h10 o0 12 (f_X12_count_e o0 a6 (v8 + (1 : Int32)) v12 h10)).bind fun h13 =>
  (mh_gR h13 o0 12 12).bind fun a14 =>
  (mh_gR h13 o0 12 1).bind fun a15 =>
  mh_b2 (f_X12_mintAt_e x1 h13) fun v17 h16 =>
  (mh_aI h16 a15 0 v17).bind fun v18 =>
  (mh_aR h16 a14 6 v18).bind fun a19 =>
  (mh_aJ h16 a19 x2).bind fun w20 =>
  if (lg_cmp w20 (4000000000000000000 : Int64)) ≤ 0 then (
  f_X12_ways_b92 w20 h16) else
  f_X12_ways_b92 (-2 : Int64) h16) else
  f_X12_ways_b30 o0 h4
set_option maxRecDepth 100000 in
set_option maxHeartbeats 4000000 in
theorem w_X12_ways_b30 {p : Program} {l : Launch} {e : Env} {s : State} {m : MethodId} {args : Array Value} {below : List Frame} {meth : Method} {c : Code} {D : va_G} {ks : Nat → ClassId} {L : List Nat} {r : Int64} {h' : mh_H} (cx : mh_C p m c cX12_ways 5 s args RX12 meth D ks (mh_A L s.heap.size)) (hr : meth.sig.returnType = (some .long)) :
    ∀ (o0 : Nat) (h : mh_H) (H : Heap) (locs : List Loc) (ls : Array Slot), mh_W D ks L (mh_A L s.heap.size) s.heap h H locs → lv_has ls 5 [(0, .ref o0)] → f_X12_ways_b30 o0 h = some (r, h') → W p l e (mh_rm 2) s m args below meth c H locs 0 0 (MQ below (mh_Ql D ks L s.heap.size r h') args s 0 0 (mh_A L s.heap.size)) (F0 m 30 ls []) := by
  intro o0 h H locs ls wd hl hX
  have hx := cx.1.1
  have hb := cx.1.2.1
  unfold f_X12_ways_b30 at hX
  refine lv_aload_n hx hb dX12_ways_30 rfl (lv_at hl 0 rfl) ?_
  refine lv_iconst (v := 2) hx hb dX12_ways_31 (by decide) ?_
  refine mh_callVI cx wd [.int (2 : Int32)] (rfl : vwCl[12]? = some (RX12, TX12, 38)) yw_X12_fail vw_X12_122 rfl hl.1 rfl (Nat.le_of_ble_eq_true rfl) dX12_ways_32 ⟨Nat.le_of_ble_eq_true rfl, Nat.le_of_ble_eq_true rfl⟩ ⟨Nat.le_refl _, Nat.le_refl _⟩ (fun _ _ q => c_X12_fail q) hX (fun v2 h1 H locs wd hX => ?_)
  refine lv_i2l hx hb dX12_ways_35 rfl ?_
  exact mh_lret cx wd hr hX dX12_ways_36
set_option maxRecDepth 100000 in
set_option maxHeartbeats 4000000 in
theorem w_X12_ways_b92 {p : Program} {l : Launch} {e : Env} {s : State} {m : MethodId} {args : Array Value} {below : List Frame} {meth : Method} {c : Code} {D : va_G} {ks : Nat → ClassId} {L : List Nat} {r : Int64} {h' : mh_H} (cx : mh_C p m c cX12_ways 5 s args RX12 meth D ks (mh_A L s.heap.size)) (hr : meth.sig.returnType = (some .long)) :
    ∀ (t0 : Int64) (h : mh_H) (H : Heap) (locs : List Loc) (ls : Array Slot), mh_W D ks L (mh_A L s.heap.size) s.heap h H locs → lv_has ls 5 [] → f_X12_ways_b92 t0 h = some (r, h') → W p l e (mh_rm 2) s m args below meth c H locs 0 0 (MQ below (mh_Ql D ks L s.heap.size r h') args s 0 0 (mh_A L s.heap.size)) (F0 m 92 ls [.long t0]) := by
  intro t0 h H locs ls wd hl hX
  have hx := cx.1.1
  have hb := cx.1.2.1
  unfold f_X12_ways_b92 at hX
  exact mh_lret cx wd hr hX dX12_ways_92
set_option maxRecDepth 100000 in
set_option maxHeartbeats 4000000 in
theorem w_X12_ways_e {p : Program} {l : Launch} {e : Env} {s : State} {m : MethodId} {args : Array Value} {below : List Frame} {meth : Method} {c : Code} {D : va_G} {ks : Nat → ClassId} {L : List Nat} {r : Int64} {h' : mh_H} (cx : mh_C p m c cX12_ways 5 s args RX12 meth D ks (mh_A L s.heap.size)) (hr : meth.sig.returnType = (some .long)) :
    ∀ (o0 : Nat) (x1 : Int32) (x2 : Int32) (h : mh_H) (H : Heap) (locs : List Loc) (ls : Array Slot), mh_W D ks L (mh_A L s.heap.size) s.heap h H locs → lv_has ls 5 [(0, .ref o0), (1, .int x1), (2, .int x2)] → f_X12_ways_e o0 x1 x2 h = some (r, h') → W p l e (mh_rm 2) s m args below meth c H locs 0 0 (MQ below (mh_Ql D ks L s.heap.size r h') args s 0 0 (mh_A L s.heap.size)) (F0 m 0 ls []) := by
  intro o0 x1 x2 h H locs ls wd hl hX
  have hx := cx.1.1
  have hb := cx.1.2.1
  unfold f_X12_ways_e at hX
  refine lv_aload_n hx hb dX12_ways_0 rfl (lv_at hl 0 rfl) ?_
  refine lv_iconst (v := 0) hx hb dX12_ways_1 (by decide) ?_
  refine mh_putI cx wd fp_X12_96 dX12_ways_2 hX (fun h3 H locs wd hX => ?_)
  refine lv_iload_n hx hb dX12_ways_5 rfl (lv_at hl 1 rfl) ?_
  refine mh_callSI cx wd [.int x1] yw_X12_isMint sw_X12_111 rfl hl.1 rfl (Nat.le_of_ble_eq_true rfl) dX12_ways_6 ⟨Nat.le_of_ble_eq_true rfl, Nat.le_of_ble_eq_true rfl⟩ ⟨Nat.le_refl _, Nat.le_refl _⟩ (fun _ _ q => c_X12_isMint q) hX (fun v5 h4 H locs wd hX => ?_)
  refine lv_if_ne (tgt := 19) hx hb dX12_ways_9 rfl (fun hc => (fun hX => ?_) ((mh_if hX).2 hc)) (fun hc => (fun hX => ?_) ((mh_if hX).1 hc))
  · refine lv_iload_n hx hb dX12_ways_19 rfl (lv_at hl 2 rfl) ?_
    refine lv_if_lt (tgt := 30) hx hb dX12_ways_20 rfl (fun hc => (fun hX => ?_) ((mh_if hX).1 hc)) (fun hc => (fun hX => ?_) ((mh_if hX).2 hc))
    · exact w_X12_ways_b30 cx hr _ h4 _ _ ls wd (lv_sub hl [0] rfl) hX
    · refine lv_iload_n hx hb dX12_ways_23 rfl (lv_at hl 2 rfl) ?_
      refine lv_sipush (v := 3001) hx hb dX12_ways_24 (by decide) ?_
      refine lv_icmp_lt (tgt := 37) hx hb dX12_ways_27 rfl (fun hc => (fun hX => ?_) ((mh_if hX).1 hc)) (fun hc => (fun hX => ?_) ((mh_if hX).2 hc))
      · refine lv_aload_n hx hb dX12_ways_37 rfl (lv_at hl 0 rfl) ?_
        refine lv_aload_n hx hb dX12_ways_38 rfl (lv_at hl 0 rfl) ?_
        refine mh_getR cx wd fl_X12_9 dX12_ways_39 hX (fun a6 hX => ?_)
        refine lv_iload_n hx hb dX12_ways_42 rfl (lv_at hl 1 rfl) ?_
        refine mh_callSI cx wd [.int x1] yw_X12_mintAt sw_X12_115 rfl hl.1 rfl (Nat.le_of_ble_eq_true rfl) dX12_ways_43 ⟨Nat.le_of_ble_eq_true rfl, Nat.le_of_ble_eq_true rfl⟩ ⟨Nat.le_refl _, Nat.le_refl _⟩ (fun _ _ q => c_X12_mintAt q) hX (fun v8 h7 H locs wd hX => ?_)
        refine lv_iconst (v := 1) hx hb dX12_ways_46 (by decide) ?_
        refine lv_iadd hx hb dX12_ways_47 ?_
        refine lv_aload_n hx hb dX12_ways_48 rfl (lv_at hl 0 rfl) ?_
        refine mh_getR cx wd fl_X12_9 dX12_ways_49 hX (fun a9 hX => ?_)
        refine lv_iload_n hx hb dX12_ways_52 rfl (lv_at hl 1 rfl) ?_
        refine mh_callSI cx wd [.int x1] yw_X12_mintAt sw_X12_115 rfl hl.1 rfl (Nat.le_of_ble_eq_true rfl) dX12_ways_53 ⟨Nat.le_of_ble_eq_true rfl, Nat.le_of_ble_eq_true rfl⟩ ⟨Nat.le_refl _, Nat.le_refl _⟩ (fun _ _ q => c_X12_mintAt q) hX (fun v11 h10 H locs wd hX => ?_)
        refine mh_iald cx wd dX12_ways_56 hX (fun v12 hX => ?_)
        refine mh_callVV cx wd [.ref a6, .int (v8 + (1 : Int32)), .int v12] (rfl : vwCl[12]? = some (RX12, TX12, 38)) yw_X12_count vw_X12_209 rfl hl.1 rfl (Nat.le_of_ble_eq_true rfl) dX12_ways_57 ⟨Nat.le_of_ble_eq_true rfl, Nat.le_of_ble_eq_true rfl⟩ ⟨Nat.le_refl _, Nat.le_refl _⟩ (fun _ q => c_X12_count q) hX (fun h13 H locs wd hX => ?_)
        refine lv_aload_n hx hb dX12_ways_60 rfl (lv_at hl 0 rfl) ?_
        refine mh_getR cx wd fl_X12_42 dX12_ways_61 hX (fun a14 hX => ?_)
        refine lv_aload_n hx hb dX12_ways_64 rfl (lv_at hl 0 rfl) ?_
        refine mh_getR cx wd fl_X12_9 dX12_ways_65 hX (fun a15 hX => ?_)
        refine lv_iload_n hx hb dX12_ways_68 rfl (lv_at hl 1 rfl) ?_
        refine mh_callSI cx wd [.int x1] yw_X12_mintAt sw_X12_115 rfl hl.1 rfl (Nat.le_of_ble_eq_true rfl) dX12_ways_69 ⟨Nat.le_of_ble_eq_true rfl, Nat.le_of_ble_eq_true rfl⟩ ⟨Nat.le_refl _, Nat.le_refl _⟩ (fun _ _ q => c_X12_mintAt q) hX (fun v17 h16 H locs wd hX => ?_)
        refine mh_iald cx wd dX12_ways_72 hX (fun v18 hX => ?_)
        refine mh_aald cx wd 6 rfl rfl dX12_ways_73 hX (fun a19 hX => ?_)
        refine lv_iload_n hx hb dX12_ways_74 rfl (lv_at hl 2 rfl) ?_
        refine mh_lald cx wd dX12_ways_75 hX (fun w20 hX => ?_)
        refine lv_lstore_n (lv' := [(3, .long w20), (0, .ref o0), (1, .int x1), (2, .int x2)]) hx hb dX12_ways_76 rfl hl (Nat.le_of_ble_eq_true rfl) rfl (fun ls hl => ?_)
        refine lv_lload_n hx hb dX12_ways_77 rfl (lv_at hl 0 rfl) ?_
        refine mh_ldc2 cx kl_X12_213 dX12_ways_78 ?_
        refine W.lcmp hx hb dX12_ways_81 ?_
        refine lv_if_le (tgt := 91) hx hb dX12_ways_82 rfl (fun hc => (fun hX => ?_) ((mh_if hX).1 hc)) (fun hc => (fun hX => ?_) ((mh_if hX).2 hc))
        · refine lv_lload_n hx hb dX12_ways_91 rfl (lv_at hl 0 rfl) ?_
          exact w_X12_ways_b92 cx hr _ h16 _ _ ls wd (lv_sub hl [] rfl) hX
        · refine mh_ldc2 cx kl_X12_215 dX12_ways_85 ?_
          refine lv_goto (tgt := 92) hx hb dX12_ways_88 rfl ?_
          exact w_X12_ways_b92 cx hr _ h16 _ _ ls wd (lv_sub hl [] rfl) hX
      · exact w_X12_ways_b30 cx hr _ h4 _ _ ls wd (lv_sub hl [0] rfl) hX
  · refine lv_aload_n hx hb dX12_ways_12 rfl (lv_at hl 0 rfl) ?_
    refine lv_iconst (v := 1) hx hb dX12_ways_13 (by decide) ?_
    refine mh_callVI cx wd [.int (1 : Int32)] (rfl : vwCl[12]? = some (RX12, TX12, 38)) yw_X12_fail vw_X12_122 rfl hl.1 rfl (Nat.le_of_ble_eq_true rfl) dX12_ways_14 ⟨Nat.le_of_ble_eq_true rfl, Nat.le_of_ble_eq_true rfl⟩ ⟨Nat.le_refl _, Nat.le_refl _⟩ (fun _ _ q => c_X12_fail q) hX (fun v22 h21 H locs wd hX => ?_)
    refine lv_i2l hx hb dX12_ways_17 rfl ?_
    exact mh_lret cx wd hr hX dX12_ways_18
set_option maxRecDepth 100000 in
theorem c_X12_ways {l : Launch} {L : List Nat} {h h' : mh_H} {r : Int64} {o0 : Nat} {x1 : Int32} {x2 : Int32} (hX : f_X12_ways_e o0 x1 x2 h = some (r, h')) : mh_MJ l yX12_ways (Cond.code yX12_ways cX12_ways 5 (some .long) :: mh_TB) (mh_rm 2) [.ref o0, .int x1, .int x2] L h r h' :=
  mh_of (mc := 0) (ms := 0) (Qc := fun D ks sz => mh_Ql D ks L sz r h') (plainFor_of_name (by decide)) (Nat.le_of_ble_eq_true rfl) (fun p e s m below meth c D ks ls hr cx wd hl => by
    have hl : lv_has ls 5 [(0, .ref o0), (1, .int x1), (2, .int x2)] := hl
    exact w_X12_ways_e cx hr o0 x1 x2 h _ _ ls wd hl hX)
def f_X12_of_b31 (o0 : Nat) (h : mh_H) : Option (Int32 × mh_H) :=
  mh_b2 (mh_cal h o0 12 (f_X12_fail_e o0 (2 : Int32) h)) fun v2 h1 =>
  mh_rz (0 : Int32) h1
def f_X12_of_b99 (h : mh_H) : Option (Int32 × mh_H) :=
  mh_rz (0 : Int32) h
def f_X12_of_b190 (k111 : Nat → Int32 → Int32 → Int64 → Int32 → Int32 → mh_H → Option (Int32 × mh_H)) (o0 : Nat) (x1 : Int32) (x5 : Int32) (y8 : Int64) (x10 : Int32) (x11 : Int32) (x12 : Int32) (x13 : Int32) (h : mh_H) : Option (Int32 × mh_H) :=
  (mh_gR h o0 12 17).bind fun a3 =>
  (mh_sI h a3 (x11 - (1 : Int32)) x12).bind fun h4 =>
  (mh_gR h4 o0 12 18).bind fun a5 =>
  (mh_sI h4 a5 (x11 - (1 : Int32)) x13).bind fun h6 =>
  mh_nm (x10 - (x13 * x12)) fun v7 =>
  mh_nm (x11 + Int32.ofInt (-1)) fun v8 =>
  k111 o0 x1 x5 y8 v7 v8 h6
def f_X12_of_b137 (k111 : Nat → Int32 → Int32 → Int64 → Int32 → Int32 → mh_H → Option (Int32 × mh_H)) : Nat → Nat → Int32 → Int32 → Int64 → Int32 → Int32 → Int32 → Int32 → mh_H → Option (Int32 × mh_H)
  | 0, _, _, _, _, _, _, _, _, _ => none
  | n + 1, o0, x1, x5, y8, x10, x11, x12, x13, h =>
    (mh_gR h o0 12 12).bind fun a9 =>
    (mh_aR h a9 6 (x11 - (1 : Int32))).bind fun a10 =>
    (mh_aJ h a10 (x10 - (x13 * x12))).bind fun w11 =>
    if (lg_cmp y8 w11) < 0 then (
    f_X12_of_b190 k111 o0 x1 x5 y8 x10 x11 x12 x13 h) else
    (mh_gR h o0 12 12).bind fun a12 =>
    (mh_aR h a12 6 (x11 - (1 : Int32))).bind fun a13 =>
    (mh_aJ h a13 (x10 - (x13 * x12))).bind fun w14 =>
    mh_nm (y8 - w14) fun w15 =>
    mh_nm (x13 + Int32.ofInt (-1)) fun v16 =>
    f_X12_of_b137 k111 n o0 x1 x5 w15 x10 x11 x12 v16 h
def f_X12_of_b228 (o0 : Nat) (x5 : Int32) (h : mh_H) : Option (Int32 × mh_H) :=
  (mh_pI h o0 12 16 x5).bind fun h17 =>
  (mh_pZ h17 o0 12 15 (1 : Int32)).bind fun h18 =>
  mh_rz (1 : Int32) h18
def f_X12_of_b111 : Nat → Nat → Int32 → Int32 → Int64 → Int32 → Int32 → mh_H → Option (Int32 × mh_H)
  | 0, _, _, _, _, _, _, _ => none
  | n + 1, o0, x1, x5, y8, x10, x11, h =>
    if x11 ≤ 0 then (
    f_X12_of_b228 o0 x5 h) else
    (mh_gR h o0 12 1).bind fun a19 =>
    mh_b2 (f_X12_mintAt_e x1 h) fun v21 h20 =>
    (mh_aI h20 a19 0 (v21 + x11)).bind fun v22 =>
    mh_nz (v22 = 0) <|
    mh_nm (x10 / v22) fun v23 =>
    f_X12_of_b137 (f_X12_of_b111 n) mh_fu o0 x1 x5 y8 x10 x11 v22 v23 h20
def f_X12_of_e (o0 : Nat) (x1 : Int32) (x2 : Int32) (y3 : Int64) (h : mh_H) : Option (Int32 × mh_H) :=
  (mh_pI h o0 12 0 (0 : Int32)).bind fun h24 =>
  mh_b2 (f_X12_isMint_e x1 h24) fun v26 h25 =>
  if v26 = 0 then (
  mh_b2 (mh_cal h25 o0 12 (f_X12_fail_e o0 (1 : Int32) h25)) fun v39 h38 =>
  mh_rz (0 : Int32) h38) else
  if x2 < 0 then (
  f_X12_of_b31 o0 h25) else
  if x2 < (3001 : Int32) then (
  (mh_gR h25 o0 12 1).bind fun a27 =>
  mh_b2 (f_X12_mintAt_e x1 h25) fun v29 h28 =>
  (mh_aI h28 a27 0 v29).bind fun v30 =>
  (mh_gR h28 o0 12 1).bind fun a31 =>
  mh_b2 (f_X12_mintAt_e x1 h28) fun v33 h32 =>
  (mh_cal h32 o0 12 (f_X12_count_e o0 a31 (v33 + (1 : Int32)) v30 h32)).bind fun h34 =>
  (mh_gR h34 o0 12 12).bind fun a35 =>
  (mh_aR h34 a35 6 v30).bind fun a36 =>
  (mh_aJ h34 a36 x2).bind fun w37 =>
  if (lg_cmp y3 (0 : Int64)) < 0 then (
  f_X12_of_b99 h34) else
  if 0 ≤ (lg_cmp y3 w37) then (
  f_X12_of_b99 h34) else
  if (lg_cmp w37 (4000000000000000000 : Int64)) ≤ 0 then (
  f_X12_of_b111 mh_fu o0 x1 v30 y3 x2 v30 h34) else
  f_X12_of_b99 h34) else
  f_X12_of_b31 o0 h25
set_option maxRecDepth 100000 in
set_option maxHeartbeats 4000000 in
theorem w_X12_of_b31 {p : Program} {l : Launch} {e : Env} {s : State} {m : MethodId} {args : Array Value} {below : List Frame} {meth : Method} {c : Code} {D : va_G} {ks : Nat → ClassId} {L : List Nat} {r : Int32} {h' : mh_H} (cx : mh_C p m c cX12_of 14 s args RX12 meth D ks (mh_A L s.heap.size)) (hr : meth.sig.returnType = (some .boolean)) :
    ∀ (o0 : Nat) (h : mh_H) (H : Heap) (locs : List Loc) (ls : Array Slot), mh_W D ks L (mh_A L s.heap.size) s.heap h H locs → lv_has ls 14 [(0, .ref o0)] → f_X12_of_b31 o0 h = some (r, h') → W p l e (mh_rm 2) s m args below meth c H locs 0 0 (MQ below (mh_Qi D ks L s.heap.size r h') args s 0 0 (mh_A L s.heap.size)) (F0 m 31 ls []) := by
  intro o0 h H locs ls wd hl hX
  have hx := cx.1.1
  have hb := cx.1.2.1
  unfold f_X12_of_b31 at hX
  refine lv_aload_n hx hb dX12_of_31 rfl (lv_at hl 0 rfl) ?_
  refine lv_iconst (v := 2) hx hb dX12_of_32 (by decide) ?_
  refine mh_callVI cx wd [.int (2 : Int32)] (rfl : vwCl[12]? = some (RX12, TX12, 38)) yw_X12_fail vw_X12_122 rfl hl.1 rfl (Nat.le_of_ble_eq_true rfl) dX12_of_33 ⟨Nat.le_of_ble_eq_true rfl, Nat.le_of_ble_eq_true rfl⟩ ⟨Nat.le_refl _, Nat.le_refl _⟩ (fun _ _ q => c_X12_fail q) hX (fun v2 h1 H locs wd hX => ?_)
  refine lv_pop hx hb dX12_of_36 rfl ?_
  refine lv_iconst (v := 0) hx hb dX12_of_37 (by decide) ?_
  exact mh_zret cx wd hr hX dX12_of_38
set_option maxRecDepth 100000 in
set_option maxHeartbeats 4000000 in
theorem w_X12_of_b99 {p : Program} {l : Launch} {e : Env} {s : State} {m : MethodId} {args : Array Value} {below : List Frame} {meth : Method} {c : Code} {D : va_G} {ks : Nat → ClassId} {L : List Nat} {r : Int32} {h' : mh_H} (cx : mh_C p m c cX12_of 14 s args RX12 meth D ks (mh_A L s.heap.size)) (hr : meth.sig.returnType = (some .boolean)) :
    ∀ (h : mh_H) (H : Heap) (locs : List Loc) (ls : Array Slot), mh_W D ks L (mh_A L s.heap.size) s.heap h H locs → lv_has ls 14 [] → f_X12_of_b99  h = some (r, h') → W p l e (mh_rm 2) s m args below meth c H locs 0 0 (MQ below (mh_Qi D ks L s.heap.size r h') args s 0 0 (mh_A L s.heap.size)) (F0 m 99 ls []) := by
  intro  h H locs ls wd hl hX
  have hx := cx.1.1
  have hb := cx.1.2.1
  unfold f_X12_of_b99 at hX
  refine lv_iconst (v := 0) hx hb dX12_of_99 (by decide) ?_
  exact mh_zret cx wd hr hX dX12_of_100
set_option maxRecDepth 100000 in
set_option maxHeartbeats 4000000 in
theorem w_X12_of_b190 {p : Program} {l : Launch} {e : Env} {s : State} {m : MethodId} {args : Array Value} {below : List Frame} {meth : Method} {c : Code} {D : va_G} {ks : Nat → ClassId} {L : List Nat} {r : Int32} {h' : mh_H} (k111 : Nat → Int32 → Int32 → Int64 → Int32 → Int32 → mh_H → Option (Int32 × mh_H)) (cx : mh_C p m c cX12_of 14 s args RX12 meth D ks (mh_A L s.heap.size)) (hr : meth.sig.returnType = (some .boolean))
    (hk111 : ∀ (o0 : Nat) (x1 : Int32) (x5 : Int32) (y8 : Int64) (x10 : Int32) (x11 : Int32) (h : mh_H) (H : Heap) (locs : List Loc) (ls : Array Slot), mh_W D ks L (mh_A L s.heap.size) s.heap h H locs → lv_has ls 14 [(0, .ref o0), (1, .int x1), (5, .int x5), (8, .long y8), (10, .int x10), (11, .int x11)] → k111 o0 x1 x5 y8 x10 x11 h = some (r, h') → W p l e (mh_rm 2) s m args below meth c H locs 0 0 (MQ below (mh_Qi D ks L s.heap.size r h') args s 0 0 (mh_A L s.heap.size)) (F0 m 111 ls [])) :
    ∀ (o0 : Nat) (x1 : Int32) (x5 : Int32) (y8 : Int64) (x10 : Int32) (x11 : Int32) (x12 : Int32) (x13 : Int32) (h : mh_H) (H : Heap) (locs : List Loc) (ls : Array Slot), mh_W D ks L (mh_A L s.heap.size) s.heap h H locs → lv_has ls 14 [(0, .ref o0), (1, .int x1), (5, .int x5), (8, .long y8), (10, .int x10), (11, .int x11), (12, .int x12), (13, .int x13)] → f_X12_of_b190 k111 o0 x1 x5 y8 x10 x11 x12 x13 h = some (r, h') → W p l e (mh_rm 2) s m args below meth c H locs 0 0 (MQ below (mh_Qi D ks L s.heap.size r h') args s 0 0 (mh_A L s.heap.size)) (F0 m 190 ls []) := by
  intro o0 x1 x5 y8 x10 x11 x12 x13 h H locs ls wd hl hX
  have hx := cx.1.1
  have hb := cx.1.2.1
  unfold f_X12_of_b190 at hX
  refine lv_aload_n hx hb dX12_of_190 rfl (lv_at hl 0 rfl) ?_
  refine mh_getR cx wd fl_X12_48 dX12_of_191 hX (fun a3 hX => ?_)
  refine lv_iload hx hb dX12_of_194 (lv_at hl 5 rfl) ?_
  refine lv_iconst (v := 1) hx hb dX12_of_196 (by decide) ?_
  refine lv_isub hx hb dX12_of_197 ?_
  refine lv_iload hx hb dX12_of_198 (lv_at hl 6 rfl) ?_
  refine mh_iast cx wd dX12_of_200 hX (fun h4 H locs wd hX => ?_)
  refine lv_aload_n hx hb dX12_of_201 rfl (lv_at hl 0 rfl) ?_
  refine mh_getR cx wd fl_X12_51 dX12_of_202 hX (fun a5 hX => ?_)
  refine lv_iload hx hb dX12_of_205 (lv_at hl 5 rfl) ?_
  refine lv_iconst (v := 1) hx hb dX12_of_207 (by decide) ?_
  refine lv_isub hx hb dX12_of_208 ?_
  refine lv_iload hx hb dX12_of_209 (lv_at hl 7 rfl) ?_
  refine mh_iast cx wd dX12_of_211 hX (fun h6 H locs wd hX => ?_)
  refine lv_iload hx hb dX12_of_212 (lv_at hl 4 rfl) ?_
  refine lv_iload hx hb dX12_of_214 (lv_at hl 7 rfl) ?_
  refine lv_iload hx hb dX12_of_216 (lv_at hl 6 rfl) ?_
  refine lv_imul hx hb dX12_of_218 ?_
  refine lv_isub hx hb dX12_of_219 ?_
  refine mh_topi hX (fun v7 hX => ?_)
  refine lv_istore (lv' := [(10, .int v7), (0, .ref o0), (1, .int x1), (5, .int x5), (8, .long y8), (11, .int x11), (12, .int x12), (13, .int x13)]) hx hb dX12_of_220 hl (Nat.le_of_ble_eq_true rfl) rfl (fun ls hl => ?_)
  obtain ⟨v8, ev8, hX⟩ := mh_nmx hX
  refine lv_iinc (k := 5) (v := v8) (lv' := [(11, .int v8), (10, .int v7), (0, .ref o0), (1, .int x1), (5, .int x5), (8, .long y8), (12, .int x12), (13, .int x13)]) hx hb dX12_of_222 hl rfl ev8 (Nat.le_of_ble_eq_true rfl) rfl (fun ls hl => ?_)
  refine lv_goto (tgt := 111) hx hb dX12_of_225 rfl ?_
  exact hk111 _ _ _ _ _ _ h6 _ _ ls wd (lv_sub hl [2, 3, 4, 5, 1, 0] rfl) hX
set_option maxRecDepth 100000 in
set_option maxHeartbeats 4000000 in
theorem w_X12_of_b137 {p : Program} {l : Launch} {e : Env} {s : State} {m : MethodId} {args : Array Value} {below : List Frame} {meth : Method} {c : Code} {D : va_G} {ks : Nat → ClassId} {L : List Nat} {r : Int32} {h' : mh_H} (k111 : Nat → Int32 → Int32 → Int64 → Int32 → Int32 → mh_H → Option (Int32 × mh_H)) (cx : mh_C p m c cX12_of 14 s args RX12 meth D ks (mh_A L s.heap.size)) (hr : meth.sig.returnType = (some .boolean))
    (hk111 : ∀ (o0 : Nat) (x1 : Int32) (x5 : Int32) (y8 : Int64) (x10 : Int32) (x11 : Int32) (h : mh_H) (H : Heap) (locs : List Loc) (ls : Array Slot), mh_W D ks L (mh_A L s.heap.size) s.heap h H locs → lv_has ls 14 [(0, .ref o0), (1, .int x1), (5, .int x5), (8, .long y8), (10, .int x10), (11, .int x11)] → k111 o0 x1 x5 y8 x10 x11 h = some (r, h') → W p l e (mh_rm 2) s m args below meth c H locs 0 0 (MQ below (mh_Qi D ks L s.heap.size r h') args s 0 0 (mh_A L s.heap.size)) (F0 m 111 ls [])) :
    ∀ n : Nat, ∀ (o0 : Nat) (x1 : Int32) (x5 : Int32) (y8 : Int64) (x10 : Int32) (x11 : Int32) (x12 : Int32) (x13 : Int32) (h : mh_H) (H : Heap) (locs : List Loc) (ls : Array Slot), mh_W D ks L (mh_A L s.heap.size) s.heap h H locs → lv_has ls 14 [(0, .ref o0), (1, .int x1), (5, .int x5), (8, .long y8), (10, .int x10), (11, .int x11), (12, .int x12), (13, .int x13)] → f_X12_of_b137 k111 n o0 x1 x5 y8 x10 x11 x12 x13 h = some (r, h') → W p l e (mh_rm 2) s m args below meth c H locs 0 0 (MQ below (mh_Qi D ks L s.heap.size r h') args s 0 0 (mh_A L s.heap.size)) (F0 m 137 ls []) := by
  intro n
  induction n with
  | zero =>
    intro o0 x1 x5 y8 x10 x11 x12 x13 h H locs ls wd hl hX
    cases hX
  | succ n ih =>
    intro o0 x1 x5 y8 x10 x11 x12 x13 h H locs ls wd hl hX
    have hx := cx.1.1
    have hb := cx.1.2.1
    rw [f_X12_of_b137] at hX
    refine lv_lload hx hb dX12_of_137 (lv_at hl 3 rfl) ?_
    refine lv_aload_n hx hb dX12_of_139 rfl (lv_at hl 0 rfl) ?_
    refine mh_getR cx wd fl_X12_42 dX12_of_140 hX (fun a9 hX => ?_)
    refine lv_iload hx hb dX12_of_143 (lv_at hl 5 rfl) ?_
    refine lv_iconst (v := 1) hx hb dX12_of_145 (by decide) ?_
    refine lv_isub hx hb dX12_of_146 ?_
    refine mh_aald cx wd 6 rfl rfl dX12_of_147 hX (fun a10 hX => ?_)
    refine lv_iload hx hb dX12_of_148 (lv_at hl 4 rfl) ?_
    refine lv_iload hx hb dX12_of_150 (lv_at hl 7 rfl) ?_
    refine lv_iload hx hb dX12_of_152 (lv_at hl 6 rfl) ?_
    refine lv_imul hx hb dX12_of_154 ?_
    refine lv_isub hx hb dX12_of_155 ?_
    refine mh_lald cx wd dX12_of_156 hX (fun w11 hX => ?_)
    refine W.lcmp hx hb dX12_of_157 ?_
    refine lv_if_lt (tgt := 190) hx hb dX12_of_158 rfl (fun hc => (fun hX => ?_) ((mh_if hX).1 hc)) (fun hc => (fun hX => ?_) ((mh_if hX).2 hc))
    · exact w_X12_of_b190 k111 cx hr hk111 _ _ _ _ _ _ _ _ h _ _ ls wd (lv_sub hl [0, 1, 2, 3, 4, 5, 6, 7] rfl) hX
    · refine lv_lload hx hb dX12_of_161 (lv_at hl 3 rfl) ?_
      refine lv_aload_n hx hb dX12_of_163 rfl (lv_at hl 0 rfl) ?_
      refine mh_getR cx wd fl_X12_42 dX12_of_164 hX (fun a12 hX => ?_)
      refine lv_iload hx hb dX12_of_167 (lv_at hl 5 rfl) ?_
      refine lv_iconst (v := 1) hx hb dX12_of_169 (by decide) ?_
      refine lv_isub hx hb dX12_of_170 ?_
      refine mh_aald cx wd 6 rfl rfl dX12_of_171 hX (fun a13 hX => ?_)
      refine lv_iload hx hb dX12_of_172 (lv_at hl 4 rfl) ?_
      refine lv_iload hx hb dX12_of_174 (lv_at hl 7 rfl) ?_
      refine lv_iload hx hb dX12_of_176 (lv_at hl 6 rfl) ?_
      refine lv_imul hx hb dX12_of_178 ?_
      refine lv_isub hx hb dX12_of_179 ?_
      refine mh_lald cx wd dX12_of_180 hX (fun w14 hX => ?_)
      refine lv_lsub hx hb dX12_of_181 ?_
      refine mh_topl hX (fun w15 hX => ?_)
      refine lv_lstore (lv' := [(8, .long w15), (0, .ref o0), (1, .int x1), (5, .int x5), (10, .int x10), (11, .int x11), (12, .int x12), (13, .int x13)]) hx hb dX12_of_182 hl (Nat.le_of_ble_eq_true rfl) rfl (fun ls hl => ?_)
      obtain ⟨v16, ev16, hX⟩ := mh_nmx hX
      refine lv_iinc (k := 7) (v := v16) (lv' := [(13, .int v16), (8, .long w15), (0, .ref o0), (1, .int x1), (5, .int x5), (10, .int x10), (11, .int x11), (12, .int x12)]) hx hb dX12_of_184 hl rfl ev16 (Nat.le_of_ble_eq_true rfl) rfl (fun ls hl => ?_)
      refine lv_goto (tgt := 137) hx hb dX12_of_187 rfl ?_
      exact ih _ _ _ _ _ _ _ _ h _ _ ls wd (lv_sub hl [2, 3, 4, 1, 5, 6, 7, 0] rfl) hX
set_option maxRecDepth 100000 in
set_option maxHeartbeats 4000000 in
theorem w_X12_of_b228 {p : Program} {l : Launch} {e : Env} {s : State} {m : MethodId} {args : Array Value} {below : List Frame} {meth : Method} {c : Code} {D : va_G} {ks : Nat → ClassId} {L : List Nat} {r : Int32} {h' : mh_H} (cx : mh_C p m c cX12_of 14 s args RX12 meth D ks (mh_A L s.heap.size)) (hr : meth.sig.returnType = (some .boolean)) :
    ∀ (o0 : Nat) (x5 : Int32) (h : mh_H) (H : Heap) (locs : List Loc) (ls : Array Slot), mh_W D ks L (mh_A L s.heap.size) s.heap h H locs → lv_has ls 14 [(0, .ref o0), (5, .int x5)] → f_X12_of_b228 o0 x5 h = some (r, h') → W p l e (mh_rm 2) s m args below meth c H locs 0 0 (MQ below (mh_Qi D ks L s.heap.size r h') args s 0 0 (mh_A L s.heap.size)) (F0 m 228 ls []) := by
  intro o0 x5 h H locs ls wd hl hX
  have hx := cx.1.1
  have hb := cx.1.2.1
  unfold f_X12_of_b228 at hX
  refine lv_aload_n hx hb dX12_of_228 rfl (lv_at hl 0 rfl) ?_
  refine lv_iload hx hb dX12_of_229 (lv_at hl 1 rfl) ?_
  refine mh_putI cx wd fp_X12_217 dX12_of_231 hX (fun h17 H locs wd hX => ?_)
  refine lv_aload_n hx hb dX12_of_234 rfl (lv_at hl 0 rfl) ?_
  refine lv_iconst (v := 1) hx hb dX12_of_235 (by decide) ?_
  refine mh_putZ cx wd fp_X12_220 dX12_of_236 hX (fun h18 H locs wd hX => ?_)
  refine lv_iconst (v := 1) hx hb dX12_of_239 (by decide) ?_
  exact mh_zret cx wd hr hX dX12_of_240
set_option maxRecDepth 100000 in
set_option maxHeartbeats 4000000 in
theorem w_X12_of_b111 {p : Program} {l : Launch} {e : Env} {s : State} {m : MethodId} {args : Array Value} {below : List Frame} {meth : Method} {c : Code} {D : va_G} {ks : Nat → ClassId} {L : List Nat} {r : Int32} {h' : mh_H} (cx : mh_C p m c cX12_of 14 s args RX12 meth D ks (mh_A L s.heap.size)) (hr : meth.sig.returnType = (some .boolean)) :
    ∀ n : Nat, ∀ (o0 : Nat) (x1 : Int32) (x5 : Int32) (y8 : Int64) (x10 : Int32) (x11 : Int32) (h : mh_H) (H : Heap) (locs : List Loc) (ls : Array Slot), mh_W D ks L (mh_A L s.heap.size) s.heap h H locs → lv_has ls 14 [(0, .ref o0), (1, .int x1), (5, .int x5), (8, .long y8), (10, .int x10), (11, .int x11)] → f_X12_of_b111 n o0 x1 x5 y8 x10 x11 h = some (r, h') → W p l e (mh_rm 2) s m args below meth c H locs 0 0 (MQ below (mh_Qi D ks L s.heap.size r h') args s 0 0 (mh_A L s.heap.size)) (F0 m 111 ls []) := by
  intro n
  induction n with
  | zero =>
    intro o0 x1 x5 y8 x10 x11 h H locs ls wd hl hX
    cases hX
  | succ n ih =>
    intro o0 x1 x5 y8 x10 x11 h H locs ls wd hl hX
    have hx := cx.1.1
    have hb := cx.1.2.1
    rw [f_X12_of_b111] at hX
    refine lv_iload hx hb dX12_of_111 (lv_at hl 5 rfl) ?_
    refine lv_if_le (tgt := 228) hx hb dX12_of_113 rfl (fun hc => (fun hX => ?_) ((mh_if hX).1 hc)) (fun hc => (fun hX => ?_) ((mh_if hX).2 hc))
    · exact w_X12_of_b228 cx hr _ _ h _ _ ls wd (lv_sub hl [0, 2] rfl) hX
    · refine lv_aload_n hx hb dX12_of_116 rfl (lv_at hl 0 rfl) ?_
      refine mh_getR cx wd fl_X12_9 dX12_of_117 hX (fun a19 hX => ?_)
      refine lv_iload_n hx hb dX12_of_120 rfl (lv_at hl 1 rfl) ?_
      refine mh_callSI cx wd [.int x1] yw_X12_mintAt sw_X12_115 rfl hl.1 rfl (Nat.le_of_ble_eq_true rfl) dX12_of_121 ⟨Nat.le_of_ble_eq_true rfl, Nat.le_of_ble_eq_true rfl⟩ ⟨Nat.le_refl _, Nat.le_refl _⟩ (fun _ _ q => c_X12_mintAt q) hX (fun v21 h20 H locs wd hX => ?_)
      refine lv_iload hx hb dX12_of_124 (lv_at hl 5 rfl) ?_
      refine lv_iadd hx hb dX12_of_126 ?_
      refine mh_iald cx wd dX12_of_127 hX (fun v22 hX => ?_)
      refine lv_istore (lv' := [(12, .int v22), (0, .ref o0), (1, .int x1), (5, .int x5), (8, .long y8), (10, .int x10), (11, .int x11)]) hx hb dX12_of_128 hl (Nat.le_of_ble_eq_true rfl) rfl (fun ls hl => ?_)
      refine lv_iload hx hb dX12_of_130 (lv_at hl 5 rfl) ?_
      refine lv_iload hx hb dX12_of_132 (lv_at hl 0 rfl) ?_
      obtain ⟨hz, hX⟩ := mh_nzk hX
      refine lv_idiv hx hb dX12_of_134 hz ?_
      refine mh_topi hX (fun v23 hX => ?_)
      refine lv_istore (lv' := [(13, .int v23), (12, .int v22), (0, .ref o0), (1, .int x1), (5, .int x5), (8, .long y8), (10, .int x10), (11, .int x11)]) hx hb dX12_of_135 hl (Nat.le_of_ble_eq_true rfl) rfl (fun ls hl => ?_)
      exact w_X12_of_b137 (f_X12_of_b111 n) cx hr ih mh_fu _ _ _ _ _ _ _ _ h20 _ _ ls wd (lv_sub hl [2, 3, 4, 5, 6, 7, 1, 0] rfl) hX
set_option maxRecDepth 100000 in
set_option maxHeartbeats 4000000 in
theorem w_X12_of_e {p : Program} {l : Launch} {e : Env} {s : State} {m : MethodId} {args : Array Value} {below : List Frame} {meth : Method} {c : Code} {D : va_G} {ks : Nat → ClassId} {L : List Nat} {r : Int32} {h' : mh_H} (cx : mh_C p m c cX12_of 14 s args RX12 meth D ks (mh_A L s.heap.size)) (hr : meth.sig.returnType = (some .boolean)) :
    ∀ (o0 : Nat) (x1 : Int32) (x2 : Int32) (y3 : Int64) (h : mh_H) (H : Heap) (locs : List Loc) (ls : Array Slot), mh_W D ks L (mh_A L s.heap.size) s.heap h H locs → lv_has ls 14 [(0, .ref o0), (1, .int x1), (2, .int x2), (3, .long y3)] → f_X12_of_e o0 x1 x2 y3 h = some (r, h') → W p l e (mh_rm 2) s m args below meth c H locs 0 0 (MQ below (mh_Qi D ks L s.heap.size r h') args s 0 0 (mh_A L s.heap.size)) (F0 m 0 ls []) := by
  intro o0 x1 x2 y3 h H locs ls wd hl hX
  have hx := cx.1.1
  have hb := cx.1.2.1
  unfold f_X12_of_e at hX
  refine lv_aload_n hx hb dX12_of_0 rfl (lv_at hl 0 rfl) ?_
  refine lv_iconst (v := 0) hx hb dX12_of_1 (by decide) ?_
  refine mh_putI cx wd fp_X12_96 dX12_of_2 hX (fun h24 H locs wd hX => ?_)
  refine lv_iload_n hx hb dX12_of_5 rfl (lv_at hl 1 rfl) ?_
  refine mh_callSI cx wd [.int x1] yw_X12_isMint sw_X12_111 rfl hl.1 rfl (Nat.le_of_ble_eq_true rfl) dX12_of_6 ⟨Nat.le_of_ble_eq_true rfl, Nat.le_of_ble_eq_true rfl⟩ ⟨Nat.le_refl _, Nat.le_refl _⟩ (fun _ _ q => c_X12_isMint q) hX (fun v26 h25 H locs wd hX => ?_)
  refine lv_if_ne (tgt := 20) hx hb dX12_of_9 rfl (fun hc => (fun hX => ?_) ((mh_if hX).2 hc)) (fun hc => (fun hX => ?_) ((mh_if hX).1 hc))
  · refine lv_iload_n hx hb dX12_of_20 rfl (lv_at hl 2 rfl) ?_
    refine lv_if_lt (tgt := 31) hx hb dX12_of_21 rfl (fun hc => (fun hX => ?_) ((mh_if hX).1 hc)) (fun hc => (fun hX => ?_) ((mh_if hX).2 hc))
    · exact w_X12_of_b31 cx hr _ h25 _ _ ls wd (lv_sub hl [0] rfl) hX
    · refine lv_iload_n hx hb dX12_of_24 rfl (lv_at hl 2 rfl) ?_
      refine lv_sipush (v := 3001) hx hb dX12_of_25 (by decide) ?_
      refine lv_icmp_lt (tgt := 39) hx hb dX12_of_28 rfl (fun hc => (fun hX => ?_) ((mh_if hX).1 hc)) (fun hc => (fun hX => ?_) ((mh_if hX).2 hc))
      · refine lv_aload_n hx hb dX12_of_39 rfl (lv_at hl 0 rfl) ?_
        refine mh_getR cx wd fl_X12_9 dX12_of_40 hX (fun a27 hX => ?_)
        refine lv_iload_n hx hb dX12_of_43 rfl (lv_at hl 1 rfl) ?_
        refine mh_callSI cx wd [.int x1] yw_X12_mintAt sw_X12_115 rfl hl.1 rfl (Nat.le_of_ble_eq_true rfl) dX12_of_44 ⟨Nat.le_of_ble_eq_true rfl, Nat.le_of_ble_eq_true rfl⟩ ⟨Nat.le_refl _, Nat.le_refl _⟩ (fun _ _ q => c_X12_mintAt q) hX (fun v29 h28 H locs wd hX => ?_)
        refine mh_iald cx wd dX12_of_47 hX (fun v30 hX => ?_)
        refine lv_istore (lv' := [(5, .int v30), (0, .ref o0), (1, .int x1), (2, .int x2), (3, .long y3)]) hx hb dX12_of_48 hl (Nat.le_of_ble_eq_true rfl) rfl (fun ls hl => ?_)
        refine lv_aload_n hx hb dX12_of_50 rfl (lv_at hl 1 rfl) ?_
        refine lv_aload_n hx hb dX12_of_51 rfl (lv_at hl 1 rfl) ?_
        refine mh_getR cx wd fl_X12_9 dX12_of_52 hX (fun a31 hX => ?_)
        refine lv_iload_n hx hb dX12_of_55 rfl (lv_at hl 2 rfl) ?_
        refine mh_callSI cx wd [.int x1] yw_X12_mintAt sw_X12_115 rfl hl.1 rfl (Nat.le_of_ble_eq_true rfl) dX12_of_56 ⟨Nat.le_of_ble_eq_true rfl, Nat.le_of_ble_eq_true rfl⟩ ⟨Nat.le_refl _, Nat.le_refl _⟩ (fun _ _ q => c_X12_mintAt q) hX (fun v33 h32 H locs wd hX => ?_)
        refine lv_iconst (v := 1) hx hb dX12_of_59 (by decide) ?_
        refine lv_iadd hx hb dX12_of_60 ?_
        refine lv_iload hx hb dX12_of_61 (lv_at hl 0 rfl) ?_
        refine mh_callVV cx wd [.ref a31, .int (v33 + (1 : Int32)), .int v30] (rfl : vwCl[12]? = some (RX12, TX12, 38)) yw_X12_count vw_X12_209 rfl hl.1 rfl (Nat.le_of_ble_eq_true rfl) dX12_of_63 ⟨Nat.le_of_ble_eq_true rfl, Nat.le_of_ble_eq_true rfl⟩ ⟨Nat.le_refl _, Nat.le_refl _⟩ (fun _ q => c_X12_count q) hX (fun h34 H locs wd hX => ?_)
        refine lv_aload_n hx hb dX12_of_66 rfl (lv_at hl 1 rfl) ?_
        refine mh_getR cx wd fl_X12_42 dX12_of_67 hX (fun a35 hX => ?_)
        refine lv_iload hx hb dX12_of_70 (lv_at hl 0 rfl) ?_
        refine mh_aald cx wd 6 rfl rfl dX12_of_72 hX (fun a36 hX => ?_)
        refine lv_iload_n hx hb dX12_of_73 rfl (lv_at hl 3 rfl) ?_
        refine mh_lald cx wd dX12_of_74 hX (fun w37 hX => ?_)
        refine lv_lstore (lv' := [(6, .long w37), (5, .int v30), (0, .ref o0), (1, .int x1), (2, .int x2), (3, .long y3)]) hx hb dX12_of_75 hl (Nat.le_of_ble_eq_true rfl) rfl (fun ls hl => ?_)
        refine lv_lload_n hx hb dX12_of_77 rfl (lv_at hl 5 rfl) ?_
        refine lv_lconst (v := 0) hx hb dX12_of_78 (by decide) ?_
        refine W.lcmp hx hb dX12_of_79 ?_
        refine lv_if_lt (tgt := 99) hx hb dX12_of_80 rfl (fun hc => (fun hX => ?_) ((mh_if hX).1 hc)) (fun hc => (fun hX => ?_) ((mh_if hX).2 hc))
        · exact w_X12_of_b99 cx hr  h34 _ _ ls wd (lv_sub hl [] rfl) hX
        · refine lv_lload_n hx hb dX12_of_83 rfl (lv_at hl 5 rfl) ?_
          refine lv_lload hx hb dX12_of_84 (lv_at hl 0 rfl) ?_
          refine W.lcmp hx hb dX12_of_86 ?_
          refine lv_if_ge (tgt := 99) hx hb dX12_of_87 rfl (fun hc => (fun hX => ?_) ((mh_if hX).1 hc)) (fun hc => (fun hX => ?_) ((mh_if hX).2 hc))
          · exact w_X12_of_b99 cx hr  h34 _ _ ls wd (lv_sub hl [] rfl) hX
          · refine lv_lload hx hb dX12_of_90 (lv_at hl 0 rfl) ?_
            refine mh_ldc2 cx kl_X12_213 dX12_of_92 ?_
            refine W.lcmp hx hb dX12_of_95 ?_
            refine lv_if_le (tgt := 101) hx hb dX12_of_96 rfl (fun hc => (fun hX => ?_) ((mh_if hX).1 hc)) (fun hc => (fun hX => ?_) ((mh_if hX).2 hc))
            · refine lv_lload_n hx hb dX12_of_101 rfl (lv_at hl 5 rfl) ?_
              refine lv_lstore (lv' := [(8, .long y3), (6, .long w37), (5, .int v30), (0, .ref o0), (1, .int x1), (2, .int x2), (3, .long y3)]) hx hb dX12_of_102 hl (Nat.le_of_ble_eq_true rfl) rfl (fun ls hl => ?_)
              refine lv_iload_n hx hb dX12_of_104 rfl (lv_at hl 5 rfl) ?_
              refine lv_istore (lv' := [(10, .int x2), (8, .long y3), (6, .long w37), (5, .int v30), (0, .ref o0), (1, .int x1), (2, .int x2), (3, .long y3)]) hx hb dX12_of_105 hl (Nat.le_of_ble_eq_true rfl) rfl (fun ls hl => ?_)
              refine lv_iload hx hb dX12_of_107 (lv_at hl 3 rfl) ?_
              refine lv_istore (lv' := [(11, .int v30), (10, .int x2), (8, .long y3), (6, .long w37), (5, .int v30), (0, .ref o0), (1, .int x1), (2, .int x2), (3, .long y3)]) hx hb dX12_of_109 hl (Nat.le_of_ble_eq_true rfl) rfl (fun ls hl => ?_)
              exact w_X12_of_b111 cx hr mh_fu _ _ _ _ _ _ h34 _ _ ls wd (lv_sub hl [5, 6, 4, 2, 1, 0] rfl) hX
            · exact w_X12_of_b99 cx hr  h34 _ _ ls wd (lv_sub hl [] rfl) hX
      · exact w_X12_of_b31 cx hr _ h25 _ _ ls wd (lv_sub hl [0] rfl) hX
  · refine lv_aload_n hx hb dX12_of_12 rfl (lv_at hl 0 rfl) ?_
    refine lv_iconst (v := 1) hx hb dX12_of_13 (by decide) ?_
    refine mh_callVI cx wd [.int (1 : Int32)] (rfl : vwCl[12]? = some (RX12, TX12, 38)) yw_X12_fail vw_X12_122 rfl hl.1 rfl (Nat.le_of_ble_eq_true rfl) dX12_of_14 ⟨Nat.le_of_ble_eq_true rfl, Nat.le_of_ble_eq_true rfl⟩ ⟨Nat.le_refl _, Nat.le_refl _⟩ (fun _ _ q => c_X12_fail q) hX (fun v39 h38 H locs wd hX => ?_)
    refine lv_pop hx hb dX12_of_17 rfl ?_
    refine lv_iconst (v := 0) hx hb dX12_of_18 (by decide) ?_
    exact mh_zret cx wd hr hX dX12_of_19
set_option maxRecDepth 100000 in
theorem c_X12_of {l : Launch} {L : List Nat} {h h' : mh_H} {r : Int32} {o0 : Nat} {x1 : Int32} {x2 : Int32} {y3 : Int64} (hX : f_X12_of_e o0 x1 x2 y3 h = some (r, h')) : mh_MI l yX12_of (Cond.code yX12_of cX12_of 14 (some .boolean) :: mh_TB) (mh_rm 2) [.ref o0, .int x1, .int x2, .long y3] L h r h' :=
  mh_of (mc := 0) (ms := 0) (Qc := fun D ks sz => mh_Qi D ks L sz r h') (plainFor_of_name (by decide)) (Nat.le_of_ble_eq_true rfl) (fun p e s m below meth c D ks ls hr cx wd hl => by
    have hl : lv_has ls 14 [(0, .ref o0), (1, .int x1), (2, .int x2), (3, .long y3)] := hl
    exact w_X12_of_e cx hr o0 x1 x2 y3 h _ _ ls wd hl hX)
