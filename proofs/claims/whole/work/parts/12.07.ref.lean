def f_X12_fits_b156 (k27 : Nat → Nat → Nat → Int32 → Int32 → Int32 → Int32 → Int32 → mh_H → Option (Int32 × mh_H)) (o0 : Nat) (o3 : Nat) (o4 : Nat) (x5 : Int32) (x6 : Int32) (x7 : Int32) (x8 : Int32) (x9 : Int32) (h : mh_H) : Option (Int32 × mh_H) :=
  mh_nm (x9 + Int32.ofInt (1)) fun v1 =>
  k27 o0 o3 o4 x5 x6 x7 x8 v1 h
def f_X12_fits_b154 (k156 : Nat → Nat → Nat → Int32 → Int32 → Int32 → Int32 → Int32 → mh_H → Option (Int32 × mh_H)) (o0 : Nat) (o3 : Nat) (o4 : Nat) (x5 : Int32) (x6 : Int32) (x7 : Int32) (x9 : Int32) (t0 : Int32) (h : mh_H) : Option (Int32 × mh_H) :=
  k156 o0 o3 o4 x5 x6 x7 t0 x9 h
def f_X12_fits_b153 (k154 : Nat → Nat → Nat → Int32 → Int32 → Int32 → Int32 → Int32 → mh_H → Option (Int32 × mh_H)) (o0 : Nat) (o3 : Nat) (o4 : Nat) (x5 : Int32) (x6 : Int32) (x7 : Int32) (x9 : Int32) (h : mh_H) : Option (Int32 × mh_H) :=
  k154 o0 o3 o4 x5 x6 x7 x9 (0 : Int32) h
def f_X12_fits_b97 (k156 : Nat → Nat → Nat → Int32 → Int32 → Int32 → Int32 → Int32 → mh_H → Option (Int32 × mh_H)) (o0 : Nat) (o3 : Nat) (o4 : Nat) (x5 : Int32) (x6 : Int32) (x7 : Int32) (x8 : Int32) (x9 : Int32) (x10 : Int32) (h : mh_H) : Option (Int32 × mh_H) :=
  (mh_gR h o0 12 1).bind fun a2 =>
  (mh_aI h a2 0 x5).bind fun v3 =>
  if x10 = v3 then (
  mh_nm (x7 + Int32.ofInt (1)) fun v8 =>
  k156 o0 o3 o4 x5 x6 v8 x8 x9 h) else
  if x8 = 0 then (
  f_X12_fits_b153 (f_X12_fits_b154 k156) o0 o3 o4 x5 x6 x7 x9 h) else
  (mh_gR h o0 12 1).bind fun a4 =>
  (mh_aI h a4 0 ((x5 + (13 : Int32)) + x10)).bind fun v5 =>
  (mh_aI h o4 0 x10).bind fun v6 =>
  (mh_aI h o3 0 x9).bind fun v7 =>
  if (20 : Int32) < ((v5 - v6) + v7) then (
  f_X12_fits_b153 (f_X12_fits_b154 k156) o0 o3 o4 x5 x6 x7 x9 h) else
  f_X12_fits_b154 k156 o0 o3 o4 x5 x6 x7 x9 (1 : Int32) h
def f_X12_fits_b52 (k156 : Nat → Nat → Nat → Int32 → Int32 → Int32 → Int32 → Int32 → mh_H → Option (Int32 × mh_H)) : Nat → Nat → Nat → Nat → Int32 → Int32 → Int32 → Int32 → Int32 → Int32 → mh_H → Option (Int32 × mh_H)
  | 0, _, _, _, _, _, _, _, _, _, _ => none
  | n + 1, o0, o3, o4, x5, x6, x7, x8, x9, x10, h =>
    (mh_gR h o0 12 1).bind fun a9 =>
    (mh_aI h a9 0 x5).bind fun v10 =>
    if v10 ≤ x10 then (
    f_X12_fits_b97 k156 o0 o3 o4 x5 x6 x7 x8 x9 x10 h) else
    (mh_gR h o0 12 1).bind fun a11 =>
    (mh_aI h a11 0 ((x5 + (1 : Int32)) + x10)).bind fun v12 =>
    (mh_gR h o0 12 1).bind fun a13 =>
    (mh_aI h a13 0 ((x6 + (1 : Int32)) + x9)).bind fun v14 =>
    if v12 = v14 then (
    f_X12_fits_b97 k156 o0 o3 o4 x5 x6 x7 x8 x9 x10 h) else
    mh_nm (x10 + Int32.ofInt (1)) fun v15 =>
    f_X12_fits_b52 k156 n o0 o3 o4 x5 x6 x7 x8 x9 v15 h
def f_X12_fits_b179 (t0 : Int32) (h : mh_H) : Option (Int32 × mh_H) :=
  mh_rz t0 h
def f_X12_fits_b178 (k179 : Int32 → mh_H → Option (Int32 × mh_H)) (h : mh_H) : Option (Int32 × mh_H) :=
  k179 (0 : Int32) h
def f_X12_fits_b162 (x7 : Int32) (x8 : Int32) (h : mh_H) : Option (Int32 × mh_H) :=
  if x8 = 0 then (
  f_X12_fits_b178 (f_X12_fits_b179) h) else
  if (12 : Int32) < x7 then (
  f_X12_fits_b178 (f_X12_fits_b179) h) else
  f_X12_fits_b179 (1 : Int32) h
def f_X12_fits_b27 : Nat → Nat → Nat → Nat → Int32 → Int32 → Int32 → Int32 → Int32 → mh_H → Option (Int32 × mh_H)
  | 0, _, _, _, _, _, _, _, _, _ => none
  | n + 1, o0, o3, o4, x5, x6, x7, x8, x9, h =>
    (mh_gR h o0 12 1).bind fun a16 =>
    (mh_aI h a16 0 x6).bind fun v17 =>
    if v17 ≤ x9 then (
    f_X12_fits_b162 x7 x8 h) else
    (mh_aI h o3 0 x9).bind fun v18 =>
    if v18 = 0 then (
    f_X12_fits_b156 (f_X12_fits_b27 n) o0 o3 o4 x5 x6 x7 x8 x9 h) else
    mh_nm (0 : Int32) fun v19 =>
    f_X12_fits_b52 (f_X12_fits_b156 (f_X12_fits_b27 n)) mh_fu o0 o3 o4 x5 x6 x7 x8 x9 v19 h
def f_X12_fits_e (o0 : Nat) (x1 : Int32) (x2 : Int32) (o3 : Nat) (o4 : Nat) (h : mh_H) : Option (Int32 × mh_H) :=
  mh_b2 (f_X12_purseAt_e x1 h) fun v21 h20 =>
  mh_b2 (f_X12_purseAt_e x2 h20) fun v23 h22 =>
  (mh_gR h22 o0 12 1).bind fun a24 =>
  (mh_aI h22 a24 0 v21).bind fun v25 =>
  mh_nm (1 : Int32) fun v26 =>
  mh_nm (0 : Int32) fun v27 =>
  f_X12_fits_b27 mh_fu o0 o3 o4 v21 v23 v25 v26 v27 h22
set_option maxRecDepth 100000 in
set_option maxHeartbeats 4000000 in
theorem w_X12_fits_b156 {p : Program} {l : Launch} {e : Env} {s : State} {m : MethodId} {args : Array Value} {below : List Frame} {meth : Method} {c : Code} {D : va_G} {ks : Nat → ClassId} {L : List Nat} {r : Int32} {h' : mh_H} (k27 : Nat → Nat → Nat → Int32 → Int32 → Int32 → Int32 → Int32 → mh_H → Option (Int32 × mh_H)) (cx : mh_C p m c cX12_fits 11 s args RX12 meth D ks (mh_A L s.heap.size)) (hr : meth.sig.returnType = (some .boolean))
    (hk27 : ∀ (o0 : Nat) (o3 : Nat) (o4 : Nat) (x5 : Int32) (x6 : Int32) (x7 : Int32) (x8 : Int32) (x9 : Int32) (h : mh_H) (H : Heap) (locs : List Loc) (ls : Array Slot), mh_W D ks L (mh_A L s.heap.size) s.heap h H locs → lv_has ls 11 [(0, .ref o0), (3, .ref o3), (4, .ref o4), (5, .int x5), (6, .int x6), (7, .int x7), (8, .int x8), (9, .int x9)] → k27 o0 o3 o4 x5 x6 x7 x8 x9 h = some (r, h') → W p l e (mh_rm 1) s m args below meth c H locs 0 0 (MQ below (mh_Qi D ks L s.heap.size r h') args s 0 0 (mh_A L s.heap.size)) (F0 m 27 ls [])) :
    ∀ (o0 : Nat) (o3 : Nat) (o4 : Nat) (x5 : Int32) (x6 : Int32) (x7 : Int32) (x8 : Int32) (x9 : Int32) (h : mh_H) (H : Heap) (locs : List Loc) (ls : Array Slot), mh_W D ks L (mh_A L s.heap.size) s.heap h H locs → lv_has ls 11 [(0, .ref o0), (3, .ref o3), (4, .ref o4), (5, .int x5), (6, .int x6), (7, .int x7), (8, .int x8), (9, .int x9)] → f_X12_fits_b156 k27 o0 o3 o4 x5 x6 x7 x8 x9 h = some (r, h') → W p l e (mh_rm 1) s m args below meth c H locs 0 0 (MQ below (mh_Qi D ks L s.heap.size r h') args s 0 0 (mh_A L s.heap.size)) (F0 m 156 ls []) := by
  intro o0 o3 o4 x5 x6 x7 x8 x9 h H locs ls wd hl hX
  have hx := cx.1.1
  have hb := cx.1.2.1
  unfold f_X12_fits_b156 at hX
  obtain ⟨v1, ev1, hX⟩ := mh_nmx hX
  refine lv_iinc (k := 7) (v := v1) (lv' := [(9, .int v1), (0, .ref o0), (3, .ref o3), (4, .ref o4), (5, .int x5), (6, .int x6), (7, .int x7), (8, .int x8)]) hx hb dX12_fits_156 hl rfl ev1 (Nat.le_of_ble_eq_true rfl) rfl (fun ls hl => ?_)
  refine lv_goto (tgt := 27) hx hb dX12_fits_159 rfl ?_
  exact hk27 _ _ _ _ _ _ _ _ h _ _ ls wd (lv_sub hl [1, 2, 3, 4, 5, 6, 7, 0] rfl) hX
set_option maxRecDepth 100000 in
set_option maxHeartbeats 4000000 in
theorem w_X12_fits_b154 {p : Program} {l : Launch} {e : Env} {s : State} {m : MethodId} {args : Array Value} {below : List Frame} {meth : Method} {c : Code} {D : va_G} {ks : Nat → ClassId} {L : List Nat} {r : Int32} {h' : mh_H} (k156 : Nat → Nat → Nat → Int32 → Int32 → Int32 → Int32 → Int32 → mh_H → Option (Int32 × mh_H)) (cx : mh_C p m c cX12_fits 11 s args RX12 meth D ks (mh_A L s.heap.size)) (hr : meth.sig.returnType = (some .boolean))
    (hk156 : ∀ (o0 : Nat) (o3 : Nat) (o4 : Nat) (x5 : Int32) (x6 : Int32) (x7 : Int32) (x8 : Int32) (x9 : Int32) (h : mh_H) (H : Heap) (locs : List Loc) (ls : Array Slot), mh_W D ks L (mh_A L s.heap.size) s.heap h H locs → lv_has ls 11 [(0, .ref o0), (3, .ref o3), (4, .ref o4), (5, .int x5), (6, .int x6), (7, .int x7), (8, .int x8), (9, .int x9)] → k156 o0 o3 o4 x5 x6 x7 x8 x9 h = some (r, h') → W p l e (mh_rm 1) s m args below meth c H locs 0 0 (MQ below (mh_Qi D ks L s.heap.size r h') args s 0 0 (mh_A L s.heap.size)) (F0 m 156 ls [])) :
    ∀ (o0 : Nat) (o3 : Nat) (o4 : Nat) (x5 : Int32) (x6 : Int32) (x7 : Int32) (x9 : Int32) (t0 : Int32) (h : mh_H) (H : Heap) (locs : List Loc) (ls : Array Slot), mh_W D ks L (mh_A L s.heap.size) s.heap h H locs → lv_has ls 11 [(0, .ref o0), (3, .ref o3), (4, .ref o4), (5, .int x5), (6, .int x6), (7, .int x7), (9, .int x9)] → f_X12_fits_b154 k156 o0 o3 o4 x5 x6 x7 x9 t0 h = some (r, h') → W p l e (mh_rm 1) s m args below meth c H locs 0 0 (MQ below (mh_Qi D ks L s.heap.size r h') args s 0 0 (mh_A L s.heap.size)) (F0 m 154 ls [.int t0]) := by
  intro o0 o3 o4 x5 x6 x7 x9 t0 h H locs ls wd hl hX
  have hx := cx.1.1
  have hb := cx.1.2.1
  unfold f_X12_fits_b154 at hX
  refine lv_istore (lv' := [(8, .int t0), (0, .ref o0), (3, .ref o3), (4, .ref o4), (5, .int x5), (6, .int x6), (7, .int x7), (9, .int x9)]) hx hb dX12_fits_154 hl (Nat.le_of_ble_eq_true rfl) rfl (fun ls hl => ?_)
  exact hk156 _ _ _ _ _ _ _ _ h _ _ ls wd (lv_sub hl [1, 2, 3, 4, 5, 6, 0, 7] rfl) hX
set_option maxRecDepth 100000 in
set_option maxHeartbeats 4000000 in
theorem w_X12_fits_b153 {p : Program} {l : Launch} {e : Env} {s : State} {m : MethodId} {args : Array Value} {below : List Frame} {meth : Method} {c : Code} {D : va_G} {ks : Nat → ClassId} {L : List Nat} {r : Int32} {h' : mh_H} (k154 : Nat → Nat → Nat → Int32 → Int32 → Int32 → Int32 → Int32 → mh_H → Option (Int32 × mh_H)) (cx : mh_C p m c cX12_fits 11 s args RX12 meth D ks (mh_A L s.heap.size)) (hr : meth.sig.returnType = (some .boolean))
    (hk154 : ∀ (o0 : Nat) (o3 : Nat) (o4 : Nat) (x5 : Int32) (x6 : Int32) (x7 : Int32) (x9 : Int32) (t0 : Int32) (h : mh_H) (H : Heap) (locs : List Loc) (ls : Array Slot), mh_W D ks L (mh_A L s.heap.size) s.heap h H locs → lv_has ls 11 [(0, .ref o0), (3, .ref o3), (4, .ref o4), (5, .int x5), (6, .int x6), (7, .int x7), (9, .int x9)] → k154 o0 o3 o4 x5 x6 x7 x9 t0 h = some (r, h') → W p l e (mh_rm 1) s m args below meth c H locs 0 0 (MQ below (mh_Qi D ks L s.heap.size r h') args s 0 0 (mh_A L s.heap.size)) (F0 m 154 ls [.int t0])) :
    ∀ (o0 : Nat) (o3 : Nat) (o4 : Nat) (x5 : Int32) (x6 : Int32) (x7 : Int32) (x9 : Int32) (h : mh_H) (H : Heap) (locs : List Loc) (ls : Array Slot), mh_W D ks L (mh_A L s.heap.size) s.heap h H locs → lv_has ls 11 [(0, .ref o0), (3, .ref o3), (4, .ref o4), (5, .int x5), (6, .int x6), (7, .int x7), (9, .int x9)] → f_X12_fits_b153 k154 o0 o3 o4 x5 x6 x7 x9 h = some (r, h') → W p l e (mh_rm 1) s m args below meth c H locs 0 0 (MQ below (mh_Qi D ks L s.heap.size r h') args s 0 0 (mh_A L s.heap.size)) (F0 m 153 ls []) := by
  intro o0 o3 o4 x5 x6 x7 x9 h H locs ls wd hl hX
  have hx := cx.1.1
  have hb := cx.1.2.1
  unfold f_X12_fits_b153 at hX
  refine lv_iconst (v := 0) hx hb dX12_fits_153 (by decide) ?_
  exact hk154 _ _ _ _ _ _ _ _ h _ _ ls wd (lv_sub hl [0, 1, 2, 3, 4, 5, 6] rfl) hX
set_option maxRecDepth 100000 in
set_option maxHeartbeats 4000000 in
theorem w_X12_fits_b97 {p : Program} {l : Launch} {e : Env} {s : State} {m : MethodId} {args : Array Value} {below : List Frame} {meth : Method} {c : Code} {D : va_G} {ks : Nat → ClassId} {L : List Nat} {r : Int32} {h' : mh_H} (k156 : Nat → Nat → Nat → Int32 → Int32 → Int32 → Int32 → Int32 → mh_H → Option (Int32 × mh_H)) (cx : mh_C p m c cX12_fits 11 s args RX12 meth D ks (mh_A L s.heap.size)) (hr : meth.sig.returnType = (some .boolean))
    (hk156 : ∀ (o0 : Nat) (o3 : Nat) (o4 : Nat) (x5 : Int32) (x6 : Int32) (x7 : Int32) (x8 : Int32) (x9 : Int32) (h : mh_H) (H : Heap) (locs : List Loc) (ls : Array Slot), mh_W D ks L (mh_A L s.heap.size) s.heap h H locs → lv_has ls 11 [(0, .ref o0), (3, .ref o3), (4, .ref o4), (5, .int x5), (6, .int x6), (7, .int x7), (8, .int x8), (9, .int x9)] → k156 o0 o3 o4 x5 x6 x7 x8 x9 h = some (r, h') → W p l e (mh_rm 1) s m args below meth c H locs 0 0 (MQ below (mh_Qi D ks L s.heap.size r h') args s 0 0 (mh_A L s.heap.size)) (F0 m 156 ls [])) :
    ∀ (o0 : Nat) (o3 : Nat) (o4 : Nat) (x5 : Int32) (x6 : Int32) (x7 : Int32) (x8 : Int32) (x9 : Int32) (x10 : Int32) (h : mh_H) (H : Heap) (locs : List Loc) (ls : Array Slot), mh_W D ks L (mh_A L s.heap.size) s.heap h H locs → lv_has ls 11 [(0, .ref o0), (3, .ref o3), (4, .ref o4), (5, .int x5), (6, .int x6), (7, .int x7), (8, .int x8), (9, .int x9), (10, .int x10)] → f_X12_fits_b97 k156 o0 o3 o4 x5 x6 x7 x8 x9 x10 h = some (r, h') → W p l e (mh_rm 1) s m args below meth c H locs 0 0 (MQ below (mh_Qi D ks L s.heap.size r h') args s 0 0 (mh_A L s.heap.size)) (F0 m 97 ls []) := by
  intro o0 o3 o4 x5 x6 x7 x8 x9 x10 h H locs ls wd hl hX
  have hx := cx.1.1
  have hb := cx.1.2.1
  unfold f_X12_fits_b97 at hX
  refine lv_iload hx hb dX12_fits_97 (lv_at hl 8 rfl) ?_
  refine lv_aload_n hx hb dX12_fits_99 rfl (lv_at hl 0 rfl) ?_
  refine mh_getR cx wd fl_X12_9 dX12_fits_100 hX (fun a2 hX => ?_)
  refine lv_iload hx hb dX12_fits_103 (lv_at hl 3 rfl) ?_
  refine mh_iald cx wd dX12_fits_105 hX (fun v3 hX => ?_)
  refine lv_icmp_ne (tgt := 115) hx hb dX12_fits_106 rfl (fun hc => (fun hX => ?_) ((mh_if hX).2 hc)) (fun hc => (fun hX => ?_) ((mh_if hX).1 hc))
  · refine lv_iload hx hb dX12_fits_115 (lv_at hl 6 rfl) ?_
    refine lv_if_eq (tgt := 153) hx hb dX12_fits_117 rfl (fun hc => (fun hX => ?_) ((mh_if hX).1 hc)) (fun hc => (fun hX => ?_) ((mh_if hX).2 hc))
    · exact w_X12_fits_b153 (f_X12_fits_b154 k156) cx hr (w_X12_fits_b154 k156 cx hr hk156) _ _ _ _ _ _ _ h _ _ ls wd (lv_sub hl [0, 1, 2, 3, 4, 5, 7] rfl) hX
    · refine lv_aload_n hx hb dX12_fits_120 rfl (lv_at hl 0 rfl) ?_
      refine mh_getR cx wd fl_X12_9 dX12_fits_121 hX (fun a4 hX => ?_)
      refine lv_iload hx hb dX12_fits_124 (lv_at hl 3 rfl) ?_
      refine lv_bipush (v := 13) hx hb dX12_fits_126 (by decide) ?_
      refine lv_iadd hx hb dX12_fits_128 ?_
      refine lv_iload hx hb dX12_fits_129 (lv_at hl 8 rfl) ?_
      refine lv_iadd hx hb dX12_fits_131 ?_
      refine mh_iald cx wd dX12_fits_132 hX (fun v5 hX => ?_)
      refine lv_aload hx hb dX12_fits_133 (lv_at hl 2 rfl) ?_
      refine lv_iload hx hb dX12_fits_135 (lv_at hl 8 rfl) ?_
      refine mh_iald cx wd dX12_fits_137 hX (fun v6 hX => ?_)
      refine lv_isub hx hb dX12_fits_138 ?_
      refine lv_aload_n hx hb dX12_fits_139 rfl (lv_at hl 1 rfl) ?_
      refine lv_iload hx hb dX12_fits_140 (lv_at hl 7 rfl) ?_
      refine mh_iald cx wd dX12_fits_142 hX (fun v7 hX => ?_)
      refine lv_iadd hx hb dX12_fits_143 ?_
      refine lv_bipush (v := 20) hx hb dX12_fits_144 (by decide) ?_
      refine lv_icmp_gt (tgt := 153) hx hb dX12_fits_146 rfl (fun hc => (fun hX => ?_) ((mh_if hX).1 hc)) (fun hc => (fun hX => ?_) ((mh_if hX).2 hc))
      · exact w_X12_fits_b153 (f_X12_fits_b154 k156) cx hr (w_X12_fits_b154 k156 cx hr hk156) _ _ _ _ _ _ _ h _ _ ls wd (lv_sub hl [0, 1, 2, 3, 4, 5, 7] rfl) hX
      · refine lv_iconst (v := 1) hx hb dX12_fits_149 (by decide) ?_
        refine lv_goto (tgt := 154) hx hb dX12_fits_150 rfl ?_
        exact w_X12_fits_b154 k156 cx hr hk156 _ _ _ _ _ _ _ _ h _ _ ls wd (lv_sub hl [0, 1, 2, 3, 4, 5, 7] rfl) hX
  · obtain ⟨v8, ev8, hX⟩ := mh_nmx hX
    refine lv_iinc (k := 5) (v := v8) (lv' := [(7, .int v8), (0, .ref o0), (3, .ref o3), (4, .ref o4), (5, .int x5), (6, .int x6), (8, .int x8), (9, .int x9), (10, .int x10)]) hx hb dX12_fits_109 hl rfl ev8 (Nat.le_of_ble_eq_true rfl) rfl (fun ls hl => ?_)
    refine lv_goto (tgt := 156) hx hb dX12_fits_112 rfl ?_
    exact hk156 _ _ _ _ _ _ _ _ h _ _ ls wd (lv_sub hl [1, 2, 3, 4, 5, 0, 6, 7] rfl) hX
set_option maxRecDepth 100000 in
set_option maxHeartbeats 4000000 in
theorem w_X12_fits_b52 {p : Program} {l : Launch} {e : Env} {s : State} {m : MethodId} {args : Array Value} {below : List Frame} {meth : Method} {c : Code} {D : va_G} {ks : Nat → ClassId} {L : List Nat} {r : Int32} {h' : mh_H} (k156 : Nat → Nat → Nat → Int32 → Int32 → Int32 → Int32 → Int32 → mh_H → Option (Int32 × mh_H)) (cx : mh_C p m c cX12_fits 11 s args RX12 meth D ks (mh_A L s.heap.size)) (hr : meth.sig.returnType = (some .boolean))
    (hk156 : ∀ (o0 : Nat) (o3 : Nat) (o4 : Nat) (x5 : Int32) (x6 : Int32) (x7 : Int32) (x8 : Int32) (x9 : Int32) (h : mh_H) (H : Heap) (locs : List Loc) (ls : Array Slot), mh_W D ks L (mh_A L s.heap.size) s.heap h H locs → lv_has ls 11 [(0, .ref o0), (3, .ref o3), (4, .ref o4), (5, .int x5), (6, .int x6), (7, .int x7), (8, .int x8), (9, .int x9)] → k156 o0 o3 o4 x5 x6 x7 x8 x9 h = some (r, h') → W p l e (mh_rm 1) s m args below meth c H locs 0 0 (MQ below (mh_Qi D ks L s.heap.size r h') args s 0 0 (mh_A L s.heap.size)) (F0 m 156 ls [])) :
    ∀ n : Nat, ∀ (o0 : Nat) (o3 : Nat) (o4 : Nat) (x5 : Int32) (x6 : Int32) (x7 : Int32) (x8 : Int32) (x9 : Int32) (x10 : Int32) (h : mh_H) (H : Heap) (locs : List Loc) (ls : Array Slot), mh_W D ks L (mh_A L s.heap.size) s.heap h H locs → lv_has ls 11 [(0, .ref o0), (3, .ref o3), (4, .ref o4), (5, .int x5), (6, .int x6), (7, .int x7), (8, .int x8), (9, .int x9), (10, .int x10)] → f_X12_fits_b52 k156 n o0 o3 o4 x5 x6 x7 x8 x9 x10 h = some (r, h') → W p l e (mh_rm 1) s m args below meth c H locs 0 0 (MQ below (mh_Qi D ks L s.heap.size r h') args s 0 0 (mh_A L s.heap.size)) (F0 m 52 ls []) := by
  intro n
  induction n with
  | zero =>
    intro o0 o3 o4 x5 x6 x7 x8 x9 x10 h H locs ls wd hl hX
    cases hX
  | succ n ih =>
    intro o0 o3 o4 x5 x6 x7 x8 x9 x10 h H locs ls wd hl hX
    have hx := cx.1.1
    have hb := cx.1.2.1
    rw [f_X12_fits_b52] at hX
    refine lv_iload hx hb dX12_fits_52 (lv_at hl 8 rfl) ?_
    refine lv_aload_n hx hb dX12_fits_54 rfl (lv_at hl 0 rfl) ?_
    refine mh_getR cx wd fl_X12_9 dX12_fits_55 hX (fun a9 hX => ?_)
    refine lv_iload hx hb dX12_fits_58 (lv_at hl 3 rfl) ?_
    refine mh_iald cx wd dX12_fits_60 hX (fun v10 hX => ?_)
    refine lv_icmp_ge (tgt := 97) hx hb dX12_fits_61 rfl (fun hc => (fun hX => ?_) ((mh_if hX).1 hc)) (fun hc => (fun hX => ?_) ((mh_if hX).2 hc))
    · exact w_X12_fits_b97 k156 cx hr hk156 _ _ _ _ _ _ _ _ _ h _ _ ls wd (lv_sub hl [0, 1, 2, 3, 4, 5, 6, 7, 8] rfl) hX
    · refine lv_aload_n hx hb dX12_fits_64 rfl (lv_at hl 0 rfl) ?_
      refine mh_getR cx wd fl_X12_9 dX12_fits_65 hX (fun a11 hX => ?_)
      refine lv_iload hx hb dX12_fits_68 (lv_at hl 3 rfl) ?_
      refine lv_iconst (v := 1) hx hb dX12_fits_70 (by decide) ?_
      refine lv_iadd hx hb dX12_fits_71 ?_
      refine lv_iload hx hb dX12_fits_72 (lv_at hl 8 rfl) ?_
      refine lv_iadd hx hb dX12_fits_74 ?_
      refine mh_iald cx wd dX12_fits_75 hX (fun v12 hX => ?_)
      refine lv_aload_n hx hb dX12_fits_76 rfl (lv_at hl 0 rfl) ?_
      refine mh_getR cx wd fl_X12_9 dX12_fits_77 hX (fun a13 hX => ?_)
      refine lv_iload hx hb dX12_fits_80 (lv_at hl 4 rfl) ?_
      refine lv_iconst (v := 1) hx hb dX12_fits_82 (by decide) ?_
      refine lv_iadd hx hb dX12_fits_83 ?_
      refine lv_iload hx hb dX12_fits_84 (lv_at hl 7 rfl) ?_
      refine lv_iadd hx hb dX12_fits_86 ?_
      refine mh_iald cx wd dX12_fits_87 hX (fun v14 hX => ?_)
      refine lv_icmp_eq (tgt := 97) hx hb dX12_fits_88 rfl (fun hc => (fun hX => ?_) ((mh_if hX).1 hc)) (fun hc => (fun hX => ?_) ((mh_if hX).2 hc))
      · exact w_X12_fits_b97 k156 cx hr hk156 _ _ _ _ _ _ _ _ _ h _ _ ls wd (lv_sub hl [0, 1, 2, 3, 4, 5, 6, 7, 8] rfl) hX
      · obtain ⟨v15, ev15, hX⟩ := mh_nmx hX
        refine lv_iinc (k := 8) (v := v15) (lv' := [(10, .int v15), (0, .ref o0), (3, .ref o3), (4, .ref o4), (5, .int x5), (6, .int x6), (7, .int x7), (8, .int x8), (9, .int x9)]) hx hb dX12_fits_91 hl rfl ev15 (Nat.le_of_ble_eq_true rfl) rfl (fun ls hl => ?_)
        refine lv_goto (tgt := 52) hx hb dX12_fits_94 rfl ?_
        exact ih _ _ _ _ _ _ _ _ _ h _ _ ls wd (lv_sub hl [1, 2, 3, 4, 5, 6, 7, 8, 0] rfl) hX
set_option maxRecDepth 100000 in
set_option maxHeartbeats 4000000 in
theorem w_X12_fits_b179 {p : Program} {l : Launch} {e : Env} {s : State} {m : MethodId} {args : Array Value} {below : List Frame} {meth : Method} {c : Code} {D : va_G} {ks : Nat → ClassId} {L : List Nat} {r : Int32} {h' : mh_H} (cx : mh_C p m c cX12_fits 11 s args RX12 meth D ks (mh_A L s.heap.size)) (hr : meth.sig.returnType = (some .boolean)) :
    ∀ (t0 : Int32) (h : mh_H) (H : Heap) (locs : List Loc) (ls : Array Slot), mh_W D ks L (mh_A L s.heap.size) s.heap h H locs → lv_has ls 11 [] → f_X12_fits_b179 t0 h = some (r, h') → W p l e (mh_rm 1) s m args below meth c H locs 0 0 (MQ below (mh_Qi D ks L s.heap.size r h') args s 0 0 (mh_A L s.heap.size)) (F0 m 179 ls [.int t0]) := by
  intro t0 h H locs ls wd hl hX
  have hx := cx.1.1
  have hb := cx.1.2.1
  unfold f_X12_fits_b179 at hX
  exact mh_zret cx wd hr hX dX12_fits_179
set_option maxRecDepth 100000 in
set_option maxHeartbeats 4000000 in
theorem w_X12_fits_b178 {p : Program} {l : Launch} {e : Env} {s : State} {m : MethodId} {args : Array Value} {below : List Frame} {meth : Method} {c : Code} {D : va_G} {ks : Nat → ClassId} {L : List Nat} {r : Int32} {h' : mh_H} (k179 : Int32 → mh_H → Option (Int32 × mh_H)) (cx : mh_C p m c cX12_fits 11 s args RX12 meth D ks (mh_A L s.heap.size)) (hr : meth.sig.returnType = (some .boolean))
    (hk179 : ∀ (t0 : Int32) (h : mh_H) (H : Heap) (locs : List Loc) (ls : Array Slot), mh_W D ks L (mh_A L s.heap.size) s.heap h H locs → lv_has ls 11 [] → k179 t0 h = some (r, h') → W p l e (mh_rm 1) s m args below meth c H locs 0 0 (MQ below (mh_Qi D ks L s.heap.size r h') args s 0 0 (mh_A L s.heap.size)) (F0 m 179 ls [.int t0])) :
    ∀ (h : mh_H) (H : Heap) (locs : List Loc) (ls : Array Slot), mh_W D ks L (mh_A L s.heap.size) s.heap h H locs → lv_has ls 11 [] → f_X12_fits_b178 k179  h = some (r, h') → W p l e (mh_rm 1) s m args below meth c H locs 0 0 (MQ below (mh_Qi D ks L s.heap.size r h') args s 0 0 (mh_A L s.heap.size)) (F0 m 178 ls []) := by
  intro  h H locs ls wd hl hX
  have hx := cx.1.1
  have hb := cx.1.2.1
  unfold f_X12_fits_b178 at hX
  refine lv_iconst (v := 0) hx hb dX12_fits_178 (by decide) ?_
  exact hk179 _ h _ _ ls wd (lv_sub hl [] rfl) hX
set_option maxRecDepth 100000 in
set_option maxHeartbeats 4000000 in
theorem w_X12_fits_b162 {p : Program} {l : Launch} {e : Env} {s : State} {m : MethodId} {args : Array Value} {below : List Frame} {meth : Method} {c : Code} {D : va_G} {ks : Nat → ClassId} {L : List Nat} {r : Int32} {h' : mh_H} (cx : mh_C p m c cX12_fits 11 s args RX12 meth D ks (mh_A L s.heap.size)) (hr : meth.sig.returnType = (some .boolean)) :
    ∀ (x7 : Int32) (x8 : Int32) (h : mh_H) (H : Heap) (locs : List Loc) (ls : Array Slot), mh_W D ks L (mh_A L s.heap.size) s.heap h H locs → lv_has ls 11 [(7, .int x7), (8, .int x8)] → f_X12_fits_b162 x7 x8 h = some (r, h') → W p l e (mh_rm 1) s m args below meth c H locs 0 0 (MQ below (mh_Qi D ks L s.heap.size r h') args s 0 0 (mh_A L s.heap.size)) (F0 m 162 ls []) := by
  intro x7 x8 h H locs ls wd hl hX
  have hx := cx.1.1
  have hb := cx.1.2.1
  unfold f_X12_fits_b162 at hX
  refine lv_iload hx hb dX12_fits_162 (lv_at hl 1 rfl) ?_
  refine lv_if_eq (tgt := 178) hx hb dX12_fits_164 rfl (fun hc => (fun hX => ?_) ((mh_if hX).1 hc)) (fun hc => (fun hX => ?_) ((mh_if hX).2 hc))
  · exact w_X12_fits_b178 (f_X12_fits_b179) cx hr (w_X12_fits_b179 cx hr)  h _ _ ls wd (lv_sub hl [] rfl) hX
  · refine lv_iload hx hb dX12_fits_167 (lv_at hl 0 rfl) ?_
    refine lv_bipush (v := 12) hx hb dX12_fits_169 (by decide) ?_
    refine lv_icmp_gt (tgt := 178) hx hb dX12_fits_171 rfl (fun hc => (fun hX => ?_) ((mh_if hX).1 hc)) (fun hc => (fun hX => ?_) ((mh_if hX).2 hc))
    · exact w_X12_fits_b178 (f_X12_fits_b179) cx hr (w_X12_fits_b179 cx hr)  h _ _ ls wd (lv_sub hl [] rfl) hX
    · refine lv_iconst (v := 1) hx hb dX12_fits_174 (by decide) ?_
      refine lv_goto (tgt := 179) hx hb dX12_fits_175 rfl ?_
      exact w_X12_fits_b179 cx hr _ h _ _ ls wd (lv_sub hl [] rfl) hX
set_option maxRecDepth 100000 in
set_option maxHeartbeats 4000000 in
theorem w_X12_fits_b27 {p : Program} {l : Launch} {e : Env} {s : State} {m : MethodId} {args : Array Value} {below : List Frame} {meth : Method} {c : Code} {D : va_G} {ks : Nat → ClassId} {L : List Nat} {r : Int32} {h' : mh_H} (cx : mh_C p m c cX12_fits 11 s args RX12 meth D ks (mh_A L s.heap.size)) (hr : meth.sig.returnType = (some .boolean)) :
    ∀ n : Nat, ∀ (o0 : Nat) (o3 : Nat) (o4 : Nat) (x5 : Int32) (x6 : Int32) (x7 : Int32) (x8 : Int32) (x9 : Int32) (h : mh_H) (H : Heap) (locs : List Loc) (ls : Array Slot), mh_W D ks L (mh_A L s.heap.size) s.heap h H locs → lv_has ls 11 [(0, .ref o0), (3, .ref o3), (4, .ref o4), (5, .int x5), (6, .int x6), (7, .int x7), (8, .int x8), (9, .int x9)] → f_X12_fits_b27 n o0 o3 o4 x5 x6 x7 x8 x9 h = some (r, h') → W p l e (mh_rm 1) s m args below meth c H locs 0 0 (MQ below (mh_Qi D ks L s.heap.size r h') args s 0 0 (mh_A L s.heap.size)) (F0 m 27 ls []) := by
  intro n
  induction n with
  | zero =>
    intro o0 o3 o4 x5 x6 x7 x8 x9 h H locs ls wd hl hX
    cases hX
  | succ n ih =>
    intro o0 o3 o4 x5 x6 x7 x8 x9 h H locs ls wd hl hX
    have hx := cx.1.1
    have hb := cx.1.2.1
    rw [f_X12_fits_b27] at hX
    refine lv_iload hx hb dX12_fits_27 (lv_at hl 7 rfl) ?_
    refine lv_aload_n hx hb dX12_fits_29 rfl (lv_at hl 0 rfl) ?_
    refine mh_getR cx wd fl_X12_9 dX12_fits_30 hX (fun a16 hX => ?_)
    refine lv_iload hx hb dX12_fits_33 (lv_at hl 4 rfl) ?_
    refine mh_iald cx wd dX12_fits_35 hX (fun v17 hX => ?_)
    refine lv_icmp_ge (tgt := 162) hx hb dX12_fits_36 rfl (fun hc => (fun hX => ?_) ((mh_if hX).1 hc)) (fun hc => (fun hX => ?_) ((mh_if hX).2 hc))
    · exact w_X12_fits_b162 cx hr _ _ h _ _ ls wd (lv_sub hl [5, 6] rfl) hX
    · refine lv_aload_n hx hb dX12_fits_39 rfl (lv_at hl 1 rfl) ?_
      refine lv_iload hx hb dX12_fits_40 (lv_at hl 7 rfl) ?_
      refine mh_iald cx wd dX12_fits_42 hX (fun v18 hX => ?_)
      refine lv_if_ne (tgt := 49) hx hb dX12_fits_43 rfl (fun hc => (fun hX => ?_) ((mh_if hX).2 hc)) (fun hc => (fun hX => ?_) ((mh_if hX).1 hc))
      · refine lv_iconst (v := 0) hx hb dX12_fits_49 (by decide) ?_
        refine mh_topi hX (fun v19 hX => ?_)
        refine lv_istore (lv' := [(10, .int v19), (0, .ref o0), (3, .ref o3), (4, .ref o4), (5, .int x5), (6, .int x6), (7, .int x7), (8, .int x8), (9, .int x9)]) hx hb dX12_fits_50 hl (Nat.le_of_ble_eq_true rfl) rfl (fun ls hl => ?_)
        exact w_X12_fits_b52 (f_X12_fits_b156 (f_X12_fits_b27 n)) cx hr (w_X12_fits_b156 (f_X12_fits_b27 n) cx hr ih) mh_fu _ _ _ _ _ _ _ _ _ h _ _ ls wd (lv_sub hl [1, 2, 3, 4, 5, 6, 7, 8, 0] rfl) hX
      · refine lv_goto (tgt := 156) hx hb dX12_fits_46 rfl ?_
        exact w_X12_fits_b156 (f_X12_fits_b27 n) cx hr ih _ _ _ _ _ _ _ _ h _ _ ls wd (lv_sub hl [0, 1, 2, 3, 4, 5, 6, 7] rfl) hX
set_option maxRecDepth 100000 in
set_option maxHeartbeats 4000000 in
theorem w_X12_fits_e {p : Program} {l : Launch} {e : Env} {s : State} {m : MethodId} {args : Array Value} {below : List Frame} {meth : Method} {c : Code} {D : va_G} {ks : Nat → ClassId} {L : List Nat} {r : Int32} {h' : mh_H} (cx : mh_C p m c cX12_fits 11 s args RX12 meth D ks (mh_A L s.heap.size)) (hr : meth.sig.returnType = (some .boolean)) :
    ∀ (o0 : Nat) (x1 : Int32) (x2 : Int32) (o3 : Nat) (o4 : Nat) (h : mh_H) (H : Heap) (locs : List Loc) (ls : Array Slot), mh_W D ks L (mh_A L s.heap.size) s.heap h H locs → lv_has ls 11 [(0, .ref o0), (1, .int x1), (2, .int x2), (3, .ref o3), (4, .ref o4)] → f_X12_fits_e o0 x1 x2 o3 o4 h = some (r, h') → W p l e (mh_rm 1) s m args below meth c H locs 0 0 (MQ below (mh_Qi D ks L s.heap.size r h') args s 0 0 (mh_A L s.heap.size)) (F0 m 0 ls []) := by
  intro o0 x1 x2 o3 o4 h H locs ls wd hl hX
  have hx := cx.1.1
  have hb := cx.1.2.1
  unfold f_X12_fits_e at hX
  refine lv_iload_n hx hb dX12_fits_0 rfl (lv_at hl 1 rfl) ?_
  refine mh_callSI cx wd [.int x1] yw_X12_purseAt sw_X12_260 rfl hl.1 rfl (Nat.le_of_ble_eq_true rfl) dX12_fits_1 ⟨Nat.le_of_ble_eq_true rfl, Nat.le_of_ble_eq_true rfl⟩ ⟨Nat.le_refl _, Nat.le_refl _⟩ (fun _ _ q => c_X12_purseAt q) hX (fun v21 h20 H locs wd hX => ?_)
  refine lv_istore (lv' := [(5, .int v21), (0, .ref o0), (1, .int x1), (2, .int x2), (3, .ref o3), (4, .ref o4)]) hx hb dX12_fits_4 hl (Nat.le_of_ble_eq_true rfl) rfl (fun ls hl => ?_)
  refine lv_iload_n hx hb dX12_fits_6 rfl (lv_at hl 3 rfl) ?_
  refine mh_callSI cx wd [.int x2] yw_X12_purseAt sw_X12_260 rfl hl.1 rfl (Nat.le_of_ble_eq_true rfl) dX12_fits_7 ⟨Nat.le_of_ble_eq_true rfl, Nat.le_of_ble_eq_true rfl⟩ ⟨Nat.le_refl _, Nat.le_refl _⟩ (fun _ _ q => c_X12_purseAt q) hX (fun v23 h22 H locs wd hX => ?_)
  refine lv_istore (lv' := [(6, .int v23), (5, .int v21), (0, .ref o0), (1, .int x1), (2, .int x2), (3, .ref o3), (4, .ref o4)]) hx hb dX12_fits_10 hl (Nat.le_of_ble_eq_true rfl) rfl (fun ls hl => ?_)
  refine lv_aload_n hx hb dX12_fits_12 rfl (lv_at hl 2 rfl) ?_
  refine mh_getR cx wd fl_X12_9 dX12_fits_13 hX (fun a24 hX => ?_)
  refine lv_iload hx hb dX12_fits_16 (lv_at hl 1 rfl) ?_
  refine mh_iald cx wd dX12_fits_18 hX (fun v25 hX => ?_)
  refine lv_istore (lv' := [(7, .int v25), (6, .int v23), (5, .int v21), (0, .ref o0), (1, .int x1), (2, .int x2), (3, .ref o3), (4, .ref o4)]) hx hb dX12_fits_19 hl (Nat.le_of_ble_eq_true rfl) rfl (fun ls hl => ?_)
  refine lv_iconst (v := 1) hx hb dX12_fits_21 (by decide) ?_
  refine mh_topi hX (fun v26 hX => ?_)
  refine lv_istore (lv' := [(8, .int v26), (7, .int v25), (6, .int v23), (5, .int v21), (0, .ref o0), (1, .int x1), (2, .int x2), (3, .ref o3), (4, .ref o4)]) hx hb dX12_fits_22 hl (Nat.le_of_ble_eq_true rfl) rfl (fun ls hl => ?_)
  refine lv_iconst (v := 0) hx hb dX12_fits_24 (by decide) ?_
  refine mh_topi hX (fun v27 hX => ?_)
  refine lv_istore (lv' := [(9, .int v27), (8, .int v26), (7, .int v25), (6, .int v23), (5, .int v21), (0, .ref o0), (1, .int x1), (2, .int x2), (3, .ref o3), (4, .ref o4)]) hx hb dX12_fits_25 hl (Nat.le_of_ble_eq_true rfl) rfl (fun ls hl => ?_)
  exact w_X12_fits_b27 cx hr mh_fu _ _ _ _ _ _ _ _ h22 _ _ ls wd (lv_sub hl [5, 8, 9, 4, 3, 2, 1, 0] rfl) hX
set_option maxRecDepth 100000 in
theorem c_X12_fits {l : Launch} {L : List Nat} {h h' : mh_H} {r : Int32} {o0 : Nat} {x1 : Int32} {x2 : Int32} {o3 : Nat} {o4 : Nat} (hX : f_X12_fits_e o0 x1 x2 o3 o4 h = some (r, h')) : mh_MI l yX12_fits (Cond.code yX12_fits cX12_fits 11 (some .boolean) :: mh_TB) (mh_rm 1) [.ref o0, .int x1, .int x2, .ref o3, .ref o4] L h r h' :=
  mh_of (mc := 0) (ms := 0) (Qc := fun D ks sz => mh_Qi D ks L sz r h') (plainFor_of_name (by decide)) (Nat.le_of_ble_eq_true rfl) (fun p e s m below meth c D ks ls hr cx wd hl => by
    have hl : lv_has ls 11 [(0, .ref o0), (1, .int x1), (2, .int x2), (3, .ref o3), (4, .ref o4)] := hl
    exact w_X12_fits_e cx hr o0 x1 x2 o3 o4 h _ _ ls wd hl hX)
def f_X12_gets_b137 (o0 : Nat) (x1 : Int32) (x2 : Int32) (x3 : Int32) (x4 : Int32) (h : mh_H) : Option mh_H :=
  (mh_gR h o0 12 1).bind fun a1 =>
  (mh_sI h a1 ((x1 + x4) + (1 : Int32)) x2).bind fun h2 =>
  (mh_gR h2 o0 12 1).bind fun a3 =>
  (mh_sI h2 a3 ((x1 + (13 : Int32)) + x4) x3).bind fun h4 =>
  (mh_gR h4 o0 12 1).bind fun a5 =>
  (mh_aI h4 a5 0 x1).bind fun v6 =>
  (mh_sI h4 a5 x1 (v6 + (1 : Int32))).bind fun h7 =>
  some h7
def f_X12_gets_b80 : Nat → Nat → Int32 → Int32 → Int32 → Int32 → Int32 → mh_H → Option mh_H
  | 0, _, _, _, _, _, _, _ => none
  | n + 1, o0, x1, x2, x3, x4, x5, h =>
    if x5 ≤ x4 then (
    f_X12_gets_b137 o0 x1 x2 x3 x4 h) else
    (mh_gR h o0 12 1).bind fun a8 =>
    (mh_gR h o0 12 1).bind fun a9 =>
    (mh_aI h a9 0 (x1 + x5)).bind fun v10 =>
    (mh_sI h a8 ((x1 + x5) + (1 : Int32)) v10).bind fun h11 =>
    (mh_gR h11 o0 12 1).bind fun a12 =>
    (mh_gR h11 o0 12 1).bind fun a13 =>
    (mh_aI h11 a13 0 ((x1 + (12 : Int32)) + x5)).bind fun v14 =>
    (mh_sI h11 a12 ((x1 + (13 : Int32)) + x5) v14).bind fun h15 =>
    mh_nm (x5 + Int32.ofInt (-1)) fun v16 =>
    f_X12_gets_b80 n o0 x1 x2 x3 x4 v16 h15
def f_X12_gets_b72 (o0 : Nat) (x1 : Int32) (x2 : Int32) (x3 : Int32) (x4 : Int32) (h : mh_H) : Option mh_H :=
  (mh_gR h o0 12 1).bind fun a17 =>
  (mh_aI h a17 0 x1).bind fun v18 =>
  f_X12_gets_b80 mh_fu o0 x1 x2 x3 x4 v18 h
def f_X12_gets_b37 (o0 : Nat) (x1 : Int32) (x2 : Int32) (x3 : Int32) (x4 : Int32) (h : mh_H) : Option mh_H :=
  if x4 ≤ 0 then (
  f_X12_gets_b72 o0 x1 x2 x3 x4 h) else
  (mh_gR h o0 12 1).bind fun a19 =>
  (mh_aI h a19 0 (x1 + x4)).bind fun v20 =>
  if v20 = x2 then (
  (mh_gR h o0 12 1).bind fun a21 =>
  (mh_aI h a21 0 ((x1 + (12 : Int32)) + x4)).bind fun v22 =>
  (mh_sI h a21 ((x1 + (12 : Int32)) + x4) (v22 + x3)).bind fun h23 =>
  some h23) else
  f_X12_gets_b72 o0 x1 x2 x3 x4 h
def f_X12_gets_b13 : Nat → Nat → Int32 → Int32 → Int32 → Int32 → mh_H → Option mh_H
  | 0, _, _, _, _, _, _ => none
  | n + 1, o0, x1, x2, x3, x4, h =>
    if x4 ≤ 0 then (
    f_X12_gets_b37 o0 x1 x2 x3 x4 h) else
    (mh_gR h o0 12 1).bind fun a24 =>
    (mh_aI h a24 0 (x1 + x4)).bind fun v25 =>
    if v25 ≤ x2 then (
    f_X12_gets_b37 o0 x1 x2 x3 x4 h) else
    mh_nm (x4 + Int32.ofInt (-1)) fun v26 =>
    f_X12_gets_b13 n o0 x1 x2 x3 v26 h
def f_X12_gets_e (o0 : Nat) (x1 : Int32) (x2 : Int32) (x3 : Int32) (h : mh_H) : Option mh_H :=
  if x3 = 0 then (
  some h) else
  (mh_gR h o0 12 1).bind fun a27 =>
  (mh_aI h a27 0 x1).bind fun v28 =>
  f_X12_gets_b13 mh_fu o0 x1 x2 x3 v28 h
set_option maxRecDepth 100000 in
set_option maxHeartbeats 4000000 in
theorem w_X12_gets_b137 {p : Program} {l : Launch} {e : Env} {s : State} {m : MethodId} {args : Array Value} {below : List Frame} {meth : Method} {c : Code} {D : va_G} {ks : Nat → ClassId} {L : List Nat} {h' : mh_H} (cx : mh_C p m c cX12_gets 6 s args RX12 meth D ks (mh_A L s.heap.size)) (hr : meth.sig.returnType = none) :
    ∀ (o0 : Nat) (x1 : Int32) (x2 : Int32) (x3 : Int32) (x4 : Int32) (h : mh_H) (H : Heap) (locs : List Loc) (ls : Array Slot), mh_W D ks L (mh_A L s.heap.size) s.heap h H locs → lv_has ls 6 [(0, .ref o0), (1, .int x1), (2, .int x2), (3, .int x3), (4, .int x4)] → f_X12_gets_b137 o0 x1 x2 x3 x4 h = some h' → W p l e (mh_rm 0) s m args below meth c H locs 0 0 (MQ below (mh_Qv D ks L s.heap.size h') args s 0 0 (mh_A L s.heap.size)) (F0 m 137 ls []) := by
  intro o0 x1 x2 x3 x4 h H locs ls wd hl hX
  have hx := cx.1.1
  have hb := cx.1.2.1
  unfold f_X12_gets_b137 at hX
  refine lv_aload_n hx hb dX12_gets_137 rfl (lv_at hl 0 rfl) ?_
  refine mh_getR cx wd fl_X12_9 dX12_gets_138 hX (fun a1 hX => ?_)
  refine lv_iload_n hx hb dX12_gets_141 rfl (lv_at hl 1 rfl) ?_
  refine lv_iload hx hb dX12_gets_142 (lv_at hl 4 rfl) ?_
  refine lv_iadd hx hb dX12_gets_144 ?_
  refine lv_iconst (v := 1) hx hb dX12_gets_145 (by decide) ?_
  refine lv_iadd hx hb dX12_gets_146 ?_
  refine lv_iload_n hx hb dX12_gets_147 rfl (lv_at hl 2 rfl) ?_
  refine mh_iast cx wd dX12_gets_148 hX (fun h2 H locs wd hX => ?_)
  refine lv_aload_n hx hb dX12_gets_149 rfl (lv_at hl 0 rfl) ?_
  refine mh_getR cx wd fl_X12_9 dX12_gets_150 hX (fun a3 hX => ?_)
  refine lv_iload_n hx hb dX12_gets_153 rfl (lv_at hl 1 rfl) ?_
  refine lv_bipush (v := 13) hx hb dX12_gets_154 (by decide) ?_
  refine lv_iadd hx hb dX12_gets_156 ?_
  refine lv_iload hx hb dX12_gets_157 (lv_at hl 4 rfl) ?_
  refine lv_iadd hx hb dX12_gets_159 ?_
  refine lv_iload_n hx hb dX12_gets_160 rfl (lv_at hl 3 rfl) ?_
  refine mh_iast cx wd dX12_gets_161 hX (fun h4 H locs wd hX => ?_)
  refine lv_aload_n hx hb dX12_gets_162 rfl (lv_at hl 0 rfl) ?_
  refine mh_getR cx wd fl_X12_9 dX12_gets_163 hX (fun a5 hX => ?_)
  refine lv_iload_n hx hb dX12_gets_166 rfl (lv_at hl 1 rfl) ?_
  refine lv_dup2_11 hx hb dX12_gets_167 rfl rfl ?_
  refine mh_iald cx wd dX12_gets_168 hX (fun v6 hX => ?_)
  refine lv_iconst (v := 1) hx hb dX12_gets_169 (by decide) ?_
  refine lv_iadd hx hb dX12_gets_170 ?_
  refine mh_iast cx wd dX12_gets_171 hX (fun h7 H locs wd hX => ?_)
  exact mh_vret cx wd hr hX dX12_gets_172
set_option maxRecDepth 100000 in
set_option maxHeartbeats 4000000 in
theorem w_X12_gets_b80 {p : Program} {l : Launch} {e : Env} {s : State} {m : MethodId} {args : Array Value} {below : List Frame} {meth : Method} {c : Code} {D : va_G} {ks : Nat → ClassId} {L : List Nat} {h' : mh_H} (cx : mh_C p m c cX12_gets 6 s args RX12 meth D ks (mh_A L s.heap.size)) (hr : meth.sig.returnType = none) :
    ∀ n : Nat, ∀ (o0 : Nat) (x1 : Int32) (x2 : Int32) (x3 : Int32) (x4 : Int32) (x5 : Int32) (h : mh_H) (H : Heap) (locs : List Loc) (ls : Array Slot), mh_W D ks L (mh_A L s.heap.size) s.heap h H locs → lv_has ls 6 [(0, .ref o0), (1, .int x1), (2, .int x2), (3, .int x3), (4, .int x4), (5, .int x5)] → f_X12_gets_b80 n o0 x1 x2 x3 x4 x5 h = some h' → W p l e (mh_rm 0) s m args below meth c H locs 0 0 (MQ below (mh_Qv D ks L s.heap.size h') args s 0 0 (mh_A L s.heap.size)) (F0 m 80 ls []) := by
  intro n
  induction n with
  | zero =>
    intro o0 x1 x2 x3 x4 x5 h H locs ls wd hl hX
    cases hX
  | succ n ih =>
    intro o0 x1 x2 x3 x4 x5 h H locs ls wd hl hX
    have hx := cx.1.1
    have hb := cx.1.2.1
    rw [f_X12_gets_b80] at hX
    refine lv_iload hx hb dX12_gets_80 (lv_at hl 5 rfl) ?_
    refine lv_iload hx hb dX12_gets_82 (lv_at hl 4 rfl) ?_
    refine lv_icmp_le (tgt := 137) hx hb dX12_gets_84 rfl (fun hc => (fun hX => ?_) ((mh_if hX).1 hc)) (fun hc => (fun hX => ?_) ((mh_if hX).2 hc))
    · exact w_X12_gets_b137 cx hr _ _ _ _ _ h _ _ ls wd (lv_sub hl [0, 1, 2, 3, 4] rfl) hX
    · refine lv_aload_n hx hb dX12_gets_87 rfl (lv_at hl 0 rfl) ?_
      refine mh_getR cx wd fl_X12_9 dX12_gets_88 hX (fun a8 hX => ?_)
      refine lv_iload_n hx hb dX12_gets_91 rfl (lv_at hl 1 rfl) ?_
      refine lv_iload hx hb dX12_gets_92 (lv_at hl 5 rfl) ?_
      refine lv_iadd hx hb dX12_gets_94 ?_
      refine lv_iconst (v := 1) hx hb dX12_gets_95 (by decide) ?_
      refine lv_iadd hx hb dX12_gets_96 ?_
      refine lv_aload_n hx hb dX12_gets_97 rfl (lv_at hl 0 rfl) ?_
      refine mh_getR cx wd fl_X12_9 dX12_gets_98 hX (fun a9 hX => ?_)
      refine lv_iload_n hx hb dX12_gets_101 rfl (lv_at hl 1 rfl) ?_
      refine lv_iload hx hb dX12_gets_102 (lv_at hl 5 rfl) ?_
      refine lv_iadd hx hb dX12_gets_104 ?_
      refine mh_iald cx wd dX12_gets_105 hX (fun v10 hX => ?_)
      refine mh_iast cx wd dX12_gets_106 hX (fun h11 H locs wd hX => ?_)
      refine lv_aload_n hx hb dX12_gets_107 rfl (lv_at hl 0 rfl) ?_
      refine mh_getR cx wd fl_X12_9 dX12_gets_108 hX (fun a12 hX => ?_)
      refine lv_iload_n hx hb dX12_gets_111 rfl (lv_at hl 1 rfl) ?_
      refine lv_bipush (v := 13) hx hb dX12_gets_112 (by decide) ?_
      refine lv_iadd hx hb dX12_gets_114 ?_
      refine lv_iload hx hb dX12_gets_115 (lv_at hl 5 rfl) ?_
      refine lv_iadd hx hb dX12_gets_117 ?_
      refine lv_aload_n hx hb dX12_gets_118 rfl (lv_at hl 0 rfl) ?_
      refine mh_getR cx wd fl_X12_9 dX12_gets_119 hX (fun a13 hX => ?_)
      refine lv_iload_n hx hb dX12_gets_122 rfl (lv_at hl 1 rfl) ?_
      refine lv_bipush (v := 12) hx hb dX12_gets_123 (by decide) ?_
      refine lv_iadd hx hb dX12_gets_125 ?_
      refine lv_iload hx hb dX12_gets_126 (lv_at hl 5 rfl) ?_
      refine lv_iadd hx hb dX12_gets_128 ?_
      refine mh_iald cx wd dX12_gets_129 hX (fun v14 hX => ?_)
      refine mh_iast cx wd dX12_gets_130 hX (fun h15 H locs wd hX => ?_)
      obtain ⟨v16, ev16, hX⟩ := mh_nmx hX
      refine lv_iinc (k := 5) (v := v16) (lv' := [(5, .int v16), (0, .ref o0), (1, .int x1), (2, .int x2), (3, .int x3), (4, .int x4)]) hx hb dX12_gets_131 hl rfl ev16 (Nat.le_of_ble_eq_true rfl) rfl (fun ls hl => ?_)
      refine lv_goto (tgt := 80) hx hb dX12_gets_134 rfl ?_
      exact ih _ _ _ _ _ _ h15 _ _ ls wd (lv_sub hl [1, 2, 3, 4, 5, 0] rfl) hX
set_option maxRecDepth 100000 in
set_option maxHeartbeats 4000000 in
theorem w_X12_gets_b72 {p : Program} {l : Launch} {e : Env} {s : State} {m : MethodId} {args : Array Value} {below : List Frame} {meth : Method} {c : Code} {D : va_G} {ks : Nat → ClassId} {L : List Nat} {h' : mh_H} (cx : mh_C p m c cX12_gets 6 s args RX12 meth D ks (mh_A L s.heap.size)) (hr : meth.sig.returnType = none) :
    ∀ (o0 : Nat) (x1 : Int32) (x2 : Int32) (x3 : Int32) (x4 : Int32) (h : mh_H) (H : Heap) (locs : List Loc) (ls : Array Slot), mh_W D ks L (mh_A L s.heap.size) s.heap h H locs → lv_has ls 6 [(0, .ref o0), (1, .int x1), (2, .int x2), (3, .int x3), (4, .int x4)] → f_X12_gets_b72 o0 x1 x2 x3 x4 h = some h' → W p l e (mh_rm 0) s m args below meth c H locs 0 0 (MQ below (mh_Qv D ks L s.heap.size h') args s 0 0 (mh_A L s.heap.size)) (F0 m 72 ls []) := by
  intro o0 x1 x2 x3 x4 h H locs ls wd hl hX
  have hx := cx.1.1
  have hb := cx.1.2.1
  unfold f_X12_gets_b72 at hX
  refine lv_aload_n hx hb dX12_gets_72 rfl (lv_at hl 0 rfl) ?_
  refine mh_getR cx wd fl_X12_9 dX12_gets_73 hX (fun a17 hX => ?_)
  refine lv_iload_n hx hb dX12_gets_76 rfl (lv_at hl 1 rfl) ?_
  refine mh_iald cx wd dX12_gets_77 hX (fun v18 hX => ?_)
  refine lv_istore (lv' := [(5, .int v18), (0, .ref o0), (1, .int x1), (2, .int x2), (3, .int x3), (4, .int x4)]) hx hb dX12_gets_78 hl (Nat.le_of_ble_eq_true rfl) rfl (fun ls hl => ?_)
  exact w_X12_gets_b80 cx hr mh_fu _ _ _ _ _ _ h _ _ ls wd (lv_sub hl [1, 2, 3, 4, 5, 0] rfl) hX
set_option maxRecDepth 100000 in
set_option maxHeartbeats 4000000 in
theorem w_X12_gets_b37 {p : Program} {l : Launch} {e : Env} {s : State} {m : MethodId} {args : Array Value} {below : List Frame} {meth : Method} {c : Code} {D : va_G} {ks : Nat → ClassId} {L : List Nat} {h' : mh_H} (cx : mh_C p m c cX12_gets 6 s args RX12 meth D ks (mh_A L s.heap.size)) (hr : meth.sig.returnType = none) :
    ∀ (o0 : Nat) (x1 : Int32) (x2 : Int32) (x3 : Int32) (x4 : Int32) (h : mh_H) (H : Heap) (locs : List Loc) (ls : Array Slot), mh_W D ks L (mh_A L s.heap.size) s.heap h H locs → lv_has ls 6 [(0, .ref o0), (1, .int x1), (2, .int x2), (3, .int x3), (4, .int x4)] → f_X12_gets_b37 o0 x1 x2 x3 x4 h = some h' → W p l e (mh_rm 0) s m args below meth c H locs 0 0 (MQ below (mh_Qv D ks L s.heap.size h') args s 0 0 (mh_A L s.heap.size)) (F0 m 37 ls []) := by
  intro o0 x1 x2 x3 x4 h H locs ls wd hl hX
  have hx := cx.1.1
  have hb := cx.1.2.1
  unfold f_X12_gets_b37 at hX
  refine lv_iload hx hb dX12_gets_37 (lv_at hl 4 rfl) ?_
  refine lv_if_le (tgt := 72) hx hb dX12_gets_39 rfl (fun hc => (fun hX => ?_) ((mh_if hX).1 hc)) (fun hc => (fun hX => ?_) ((mh_if hX).2 hc))
  · exact w_X12_gets_b72 cx hr _ _ _ _ _ h _ _ ls wd (lv_sub hl [0, 1, 2, 3, 4] rfl) hX
  · refine lv_aload_n hx hb dX12_gets_42 rfl (lv_at hl 0 rfl) ?_
    refine mh_getR cx wd fl_X12_9 dX12_gets_43 hX (fun a19 hX => ?_)
    refine lv_iload_n hx hb dX12_gets_46 rfl (lv_at hl 1 rfl) ?_
    refine lv_iload hx hb dX12_gets_47 (lv_at hl 4 rfl) ?_
    refine lv_iadd hx hb dX12_gets_49 ?_
    refine mh_iald cx wd dX12_gets_50 hX (fun v20 hX => ?_)
    refine lv_iload_n hx hb dX12_gets_51 rfl (lv_at hl 2 rfl) ?_
    refine lv_icmp_ne (tgt := 72) hx hb dX12_gets_52 rfl (fun hc => (fun hX => ?_) ((mh_if hX).2 hc)) (fun hc => (fun hX => ?_) ((mh_if hX).1 hc))
    · exact w_X12_gets_b72 cx hr _ _ _ _ _ h _ _ ls wd (lv_sub hl [0, 1, 2, 3, 4] rfl) hX
    · refine lv_aload_n hx hb dX12_gets_55 rfl (lv_at hl 0 rfl) ?_
      refine mh_getR cx wd fl_X12_9 dX12_gets_56 hX (fun a21 hX => ?_)
      refine lv_iload_n hx hb dX12_gets_59 rfl (lv_at hl 1 rfl) ?_
      refine lv_bipush (v := 12) hx hb dX12_gets_60 (by decide) ?_
      refine lv_iadd hx hb dX12_gets_62 ?_
      refine lv_iload hx hb dX12_gets_63 (lv_at hl 4 rfl) ?_
      refine lv_iadd hx hb dX12_gets_65 ?_
      refine lv_dup2_11 hx hb dX12_gets_66 rfl rfl ?_
      refine mh_iald cx wd dX12_gets_67 hX (fun v22 hX => ?_)
      refine lv_iload_n hx hb dX12_gets_68 rfl (lv_at hl 3 rfl) ?_
      refine lv_iadd hx hb dX12_gets_69 ?_
      refine mh_iast cx wd dX12_gets_70 hX (fun h23 H locs wd hX => ?_)
      exact mh_vret cx wd hr hX dX12_gets_71
set_option maxRecDepth 100000 in
set_option maxHeartbeats 4000000 in
theorem w_X12_gets_b13 {p : Program} {l : Launch} {e : Env} {s : State} {m : MethodId} {args : Array Value} {below : List Frame} {meth : Method} {c : Code} {D : va_G} {ks : Nat → ClassId} {L : List Nat} {h' : mh_H} (cx : mh_C p m c cX12_gets 6 s args RX12 meth D ks (mh_A L s.heap.size)) (hr : meth.sig.returnType = none) :
    ∀ n : Nat, ∀ (o0 : Nat) (x1 : Int32) (x2 : Int32) (x3 : Int32) (x4 : Int32) (h : mh_H) (H : Heap) (locs : List Loc) (ls : Array Slot), mh_W D ks L (mh_A L s.heap.size) s.heap h H locs → lv_has ls 6 [(0, .ref o0), (1, .int x1), (2, .int x2), (3, .int x3), (4, .int x4)] → f_X12_gets_b13 n o0 x1 x2 x3 x4 h = some h' → W p l e (mh_rm 0) s m args below meth c H locs 0 0 (MQ below (mh_Qv D ks L s.heap.size h') args s 0 0 (mh_A L s.heap.size)) (F0 m 13 ls []) := by
  intro n
  induction n with
  | zero =>
    intro o0 x1 x2 x3 x4 h H locs ls wd hl hX
    cases hX
  | succ n ih =>
    intro o0 x1 x2 x3 x4 h H locs ls wd hl hX
    have hx := cx.1.1
    have hb := cx.1.2.1
    rw [f_X12_gets_b13] at hX
    refine lv_iload hx hb dX12_gets_13 (lv_at hl 4 rfl) ?_
    refine lv_if_le (tgt := 37) hx hb dX12_gets_15 rfl (fun hc => (fun hX => ?_) ((mh_if hX).1 hc)) (fun hc => (fun hX => ?_) ((mh_if hX).2 hc))
    · exact w_X12_gets_b37 cx hr _ _ _ _ _ h _ _ ls wd (lv_sub hl [0, 1, 2, 3, 4] rfl) hX
    · refine lv_aload_n hx hb dX12_gets_18 rfl (lv_at hl 0 rfl) ?_
      refine mh_getR cx wd fl_X12_9 dX12_gets_19 hX (fun a24 hX => ?_)
      refine lv_iload_n hx hb dX12_gets_22 rfl (lv_at hl 1 rfl) ?_
      refine lv_iload hx hb dX12_gets_23 (lv_at hl 4 rfl) ?_
      refine lv_iadd hx hb dX12_gets_25 ?_
      refine mh_iald cx wd dX12_gets_26 hX (fun v25 hX => ?_)
      refine lv_iload_n hx hb dX12_gets_27 rfl (lv_at hl 2 rfl) ?_
      refine lv_icmp_le (tgt := 37) hx hb dX12_gets_28 rfl (fun hc => (fun hX => ?_) ((mh_if hX).1 hc)) (fun hc => (fun hX => ?_) ((mh_if hX).2 hc))
      · exact w_X12_gets_b37 cx hr _ _ _ _ _ h _ _ ls wd (lv_sub hl [0, 1, 2, 3, 4] rfl) hX
      · obtain ⟨v26, ev26, hX⟩ := mh_nmx hX
        refine lv_iinc (k := 4) (v := v26) (lv' := [(4, .int v26), (0, .ref o0), (1, .int x1), (2, .int x2), (3, .int x3)]) hx hb dX12_gets_31 hl rfl ev26 (Nat.le_of_ble_eq_true rfl) rfl (fun ls hl => ?_)
        refine lv_goto (tgt := 13) hx hb dX12_gets_34 rfl ?_
        exact ih _ _ _ _ _ h _ _ ls wd (lv_sub hl [1, 2, 3, 4, 0] rfl) hX
set_option maxRecDepth 100000 in
set_option maxHeartbeats 4000000 in
theorem w_X12_gets_e {p : Program} {l : Launch} {e : Env} {s : State} {m : MethodId} {args : Array Value} {below : List Frame} {meth : Method} {c : Code} {D : va_G} {ks : Nat → ClassId} {L : List Nat} {h' : mh_H} (cx : mh_C p m c cX12_gets 6 s args RX12 meth D ks (mh_A L s.heap.size)) (hr : meth.sig.returnType = none) :
    ∀ (o0 : Nat) (x1 : Int32) (x2 : Int32) (x3 : Int32) (h : mh_H) (H : Heap) (locs : List Loc) (ls : Array Slot), mh_W D ks L (mh_A L s.heap.size) s.heap h H locs → lv_has ls 6 [(0, .ref o0), (1, .int x1), (2, .int x2), (3, .int x3)] → f_X12_gets_e o0 x1 x2 x3 h = some h' → W p l e (mh_rm 0) s m args below meth c H locs 0 0 (MQ below (mh_Qv D ks L s.heap.size h') args s 0 0 (mh_A L s.heap.size)) (F0 m 0 ls []) := by
  intro o0 x1 x2 x3 h H locs ls wd hl hX
  have hx := cx.1.1
  have hb := cx.1.2.1
  unfold f_X12_gets_e at hX
  refine lv_iload_n hx hb dX12_gets_0 rfl (lv_at hl 3 rfl) ?_
  refine lv_if_ne (tgt := 5) hx hb dX12_gets_1 rfl (fun hc => (fun hX => ?_) ((mh_if hX).2 hc)) (fun hc => (fun hX => ?_) ((mh_if hX).1 hc))
  · refine lv_aload_n hx hb dX12_gets_5 rfl (lv_at hl 0 rfl) ?_
    refine mh_getR cx wd fl_X12_9 dX12_gets_6 hX (fun a27 hX => ?_)
    refine lv_iload_n hx hb dX12_gets_9 rfl (lv_at hl 1 rfl) ?_
    refine mh_iald cx wd dX12_gets_10 hX (fun v28 hX => ?_)
    refine lv_istore (lv' := [(4, .int v28), (0, .ref o0), (1, .int x1), (2, .int x2), (3, .int x3)]) hx hb dX12_gets_11 hl (Nat.le_of_ble_eq_true rfl) rfl (fun ls hl => ?_)
    exact w_X12_gets_b13 cx hr mh_fu _ _ _ _ _ h _ _ ls wd (lv_sub hl [1, 2, 3, 4, 0] rfl) hX
  · exact mh_vret cx wd hr hX dX12_gets_4
set_option maxRecDepth 100000 in
theorem c_X12_gets {l : Launch} {L : List Nat} {h h' : mh_H} {o0 : Nat} {x1 : Int32} {x2 : Int32} {x3 : Int32} (hX : f_X12_gets_e o0 x1 x2 x3 h = some h') : mh_MV l yX12_gets (Cond.code yX12_gets cX12_gets 6 none :: mh_TB) (mh_rm 0) [.ref o0, .int x1, .int x2, .int x3] L h h' :=
  mh_of (mc := 0) (ms := 0) (Qc := fun D ks sz => mh_Qv D ks L sz h') (plainFor_of_name (by decide)) (Nat.le_of_ble_eq_true rfl) (fun p e s m below meth c D ks ls hr cx wd hl => by
    have hl : lv_has ls 6 [(0, .ref o0), (1, .int x1), (2, .int x2), (3, .int x3)] := hl
    exact w_X12_gets_e cx hr o0 x1 x2 x3 h _ _ ls wd hl hX)
