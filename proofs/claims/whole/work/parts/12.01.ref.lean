def f_X12_table_b68 (k27 : Nat → Int32 → Int32 → Int32 → mh_H → Option mh_H) (o0 : Nat) (x2 : Int32) (x4 : Int32) (t0 : Int32) (h : mh_H) : Option mh_H :=
  mh_nm (x4 + Int32.ofInt (1)) fun v1 =>
  k27 o0 x2 t0 v1 h
def f_X12_table_b155 (k129 : Nat → Int32 → mh_H → Option mh_H) (o0 : Nat) (x4 : Int32) (t0 : Nat) (t1 : Int32) (t2 : Int32) (h : mh_H) : Option mh_H :=
  (mh_sI h t0 t1 t2).bind fun h2 =>
  mh_nm (x4 + Int32.ofInt (1)) fun v3 =>
  k129 o0 v3 h2
def f_X12_table_b265 (k188 : Nat → Int32 → Int32 → Int32 → mh_H → Option mh_H) (o0 : Nat) (x4 : Int32) (x5 : Int32) (x6 : Int32) (t0 : Nat) (t1 : Int32) (t2 : Int32) (h : mh_H) : Option mh_H :=
  (mh_sI h t0 t1 t2).bind fun h4 =>
  mh_nm (x6 + Int32.ofInt (1)) fun v5 =>
  k188 o0 x4 x5 v5 h4
def f_X12_table_b263 (k265 : Nat → Int32 → Int32 → Int32 → Nat → Int32 → Int32 → mh_H → Option mh_H) (o0 : Nat) (x4 : Int32) (x5 : Int32) (x6 : Int32) (x7 : Int32) (t0 : Nat) (t1 : Int32) (h : mh_H) : Option mh_H :=
  k265 o0 x4 x5 x6 t0 t1 x7 h
def f_X12_table_b272 (k165 : Nat → Int32 → mh_H → Option mh_H) (o0 : Nat) (x4 : Int32) (h : mh_H) : Option mh_H :=
  mh_nm (x4 + Int32.ofInt (1)) fun v6 =>
  k165 o0 v6 h
def f_X12_table_b188 (k165 : Nat → Int32 → mh_H → Option mh_H) : Nat → Nat → Int32 → Int32 → Int32 → mh_H → Option mh_H
  | 0, _, _, _, _, _ => none
  | n + 1, o0, x4, x5, x6, h =>
    if (100300 : Int32) < x6 then (
    f_X12_table_b272 k165 o0 x4 h) else
    (mh_gR h o0 12 8).bind fun a7 =>
    (mh_aR h a7 5 (x4 - (1 : Int32))).bind fun a8 =>
    (mh_aI h a8 0 x6).bind fun v9 =>
    (mh_gR h o0 12 8).bind fun a10 =>
    (mh_aR h a10 5 x4).bind fun a11 =>
    if x6 < x5 then (
    f_X12_table_b263 (f_X12_table_b265 (f_X12_table_b188 k165 n)) o0 x4 x5 x6 v9 a11 x6 h) else
    (mh_gR h o0 12 8).bind fun a12 =>
    (mh_aR h a12 5 x4).bind fun a13 =>
    (mh_aI h a13 0 (x6 - x5)).bind fun v14 =>
    if v9 ≤ (v14 + (1 : Int32)) then (
    f_X12_table_b263 (f_X12_table_b265 (f_X12_table_b188 k165 n)) o0 x4 x5 x6 v9 a11 x6 h) else
    (mh_gR h o0 12 8).bind fun a15 =>
    (mh_aR h a15 5 x4).bind fun a16 =>
    (mh_aI h a16 0 (x6 - x5)).bind fun v17 =>
    f_X12_table_b265 (f_X12_table_b188 k165 n) o0 x4 x5 x6 a11 x6 (v17 + (1 : Int32)) h
def f_X12_table_b278 (h : mh_H) : Option mh_H :=
  some h
def f_X12_table_b165 : Nat → Nat → Int32 → mh_H → Option mh_H
  | 0, _, _, _ => none
  | n + 1, o0, x4, h =>
    (mh_gI h o0 12 7).bind fun v18 =>
    if v18 < x4 then (
    f_X12_table_b278 h) else
    (mh_gR h o0 12 6).bind fun a19 =>
    (mh_aI h a19 0 (x4 - (1 : Int32))).bind fun v20 =>
    mh_nm (0 : Int32) fun v21 =>
    f_X12_table_b188 (f_X12_table_b165 n) mh_fu o0 x4 v20 v21 h
def f_X12_table_b162 (o0 : Nat) (h : mh_H) : Option mh_H :=
  mh_nm (1 : Int32) fun v22 =>
  f_X12_table_b165 mh_fu o0 v22 h
def f_X12_table_b129 : Nat → Nat → Int32 → mh_H → Option mh_H
  | 0, _, _, _ => none
  | n + 1, o0, x4, h =>
    if (100300 : Int32) < x4 then (
    f_X12_table_b162 o0 h) else
    (mh_gR h o0 12 8).bind fun a23 =>
    (mh_aR h a23 5 (0 : Int32)).bind fun a24 =>
    if x4 = 0 then (
    f_X12_table_b155 (f_X12_table_b129 n) o0 x4 a24 x4 (0 : Int32) h) else
    f_X12_table_b155 (f_X12_table_b129 n) o0 x4 a24 x4 (536870912 : Int32) h
def f_X12_table_b126 (o0 : Nat) (h : mh_H) : Option mh_H :=
  mh_nm (0 : Int32) fun v25 =>
  f_X12_table_b129 mh_fu o0 v25 h
def f_X12_table_b93 : Nat → Nat → Int32 → Int32 → mh_H → Option mh_H
  | 0, _, _, _, _ => none
  | n + 1, o0, x2, x4, h =>
    (mh_gI h o0 12 7).bind fun v26 =>
    if v26 ≤ x4 then (
    f_X12_table_b126 o0 h) else
    (mh_gR h o0 12 6).bind fun a27 =>
    (mh_gR h o0 12 1).bind fun a28 =>
    (mh_aI h a28 0 ((x2 + (1 : Int32)) + x4)).bind fun v29 =>
    (mh_sI h a27 x4 v29).bind fun h30 =>
    mh_nm (x4 + Int32.ofInt (1)) fun v31 =>
    f_X12_table_b93 n o0 x2 v31 h30
def f_X12_table_b75 (o0 : Nat) (x2 : Int32) (x3 : Int32) (h : mh_H) : Option mh_H :=
  if x3 = 0 then (
  (mh_gR h o0 12 1).bind fun a32 =>
  (mh_aI h a32 0 x2).bind fun v33 =>
  (mh_pI h o0 12 7 v33).bind fun h34 =>
  mh_nm (0 : Int32) fun v35 =>
  f_X12_table_b93 mh_fu o0 x2 v35 h34) else
  some h
def f_X12_table_b27 : Nat → Nat → Int32 → Int32 → Int32 → mh_H → Option mh_H
  | 0, _, _, _, _, _ => none
  | n + 1, o0, x2, x3, x4, h =>
    (mh_gR h o0 12 1).bind fun a36 =>
    (mh_aI h a36 0 x2).bind fun v37 =>
    if v37 ≤ x4 then (
    f_X12_table_b75 o0 x2 x3 h) else
    if x3 = 0 then (
    f_X12_table_b75 o0 x2 x3 h) else
    (mh_gR h o0 12 6).bind fun a38 =>
    (mh_aI h a38 0 x4).bind fun v39 =>
    (mh_gR h o0 12 1).bind fun a40 =>
    (mh_aI h a40 0 ((x2 + (1 : Int32)) + x4)).bind fun v41 =>
    if v39 = v41 then (
    f_X12_table_b68 (f_X12_table_b27 n) o0 x2 x4 (1 : Int32) h) else
    f_X12_table_b68 (f_X12_table_b27 n) o0 x2 x4 (0 : Int32) h
def f_X12_table_b23 (o0 : Nat) (x2 : Int32) (t0 : Int32) (h : mh_H) : Option mh_H :=
  mh_nm (0 : Int32) fun v42 =>
  f_X12_table_b27 mh_fu o0 x2 t0 v42 h
def f_X12_table_e (o0 : Nat) (x1 : Int32) (h : mh_H) : Option mh_H :=
  mh_b2 (f_X12_mintAt_e x1 h) fun v44 h43 =>
  (mh_gI h43 o0 12 7).bind fun v45 =>
  (mh_gR h43 o0 12 1).bind fun a46 =>
  (mh_aI h43 a46 0 v44).bind fun v47 =>
  if v45 = v47 then (
  f_X12_table_b23 o0 v44 (1 : Int32) h43) else
  f_X12_table_b23 o0 v44 (0 : Int32) h43
set_option maxRecDepth 100000 in
set_option maxHeartbeats 4000000 in
theorem w_X12_table_b68 {p : Program} {l : Launch} {e : Env} {s : State} {m : MethodId} {args : Array Value} {below : List Frame} {meth : Method} {c : Code} {D : va_G} {ks : Nat → ClassId} {L : List Nat} {h' : mh_H} (k27 : Nat → Int32 → Int32 → Int32 → mh_H → Option mh_H) (cx : mh_C p m c cX12_table 8 s args RX12 meth D ks (mh_A L s.heap.size)) (hr : meth.sig.returnType = none)
    (hk27 : ∀ (o0 : Nat) (x2 : Int32) (x3 : Int32) (x4 : Int32) (h : mh_H) (H : Heap) (locs : List Loc) (ls : Array Slot), mh_W D ks L (mh_A L s.heap.size) s.heap h H locs → lv_has ls 8 [(0, .ref o0), (2, .int x2), (3, .int x3), (4, .int x4)] → k27 o0 x2 x3 x4 h = some h' → W p l e (mh_rm 1) s m args below meth c H locs 0 0 (MQ below (mh_Qv D ks L s.heap.size h') args s 0 0 (mh_A L s.heap.size)) (F0 m 27 ls [])) :
    ∀ (o0 : Nat) (x2 : Int32) (x4 : Int32) (t0 : Int32) (h : mh_H) (H : Heap) (locs : List Loc) (ls : Array Slot), mh_W D ks L (mh_A L s.heap.size) s.heap h H locs → lv_has ls 8 [(0, .ref o0), (2, .int x2), (4, .int x4)] → f_X12_table_b68 k27 o0 x2 x4 t0 h = some h' → W p l e (mh_rm 1) s m args below meth c H locs 0 0 (MQ below (mh_Qv D ks L s.heap.size h') args s 0 0 (mh_A L s.heap.size)) (F0 m 68 ls [.int t0]) := by
  intro o0 x2 x4 t0 h H locs ls wd hl hX
  have hx := cx.1.1
  have hb := cx.1.2.1
  unfold f_X12_table_b68 at hX
  refine lv_istore_n (lv' := [(3, .int t0), (0, .ref o0), (2, .int x2), (4, .int x4)]) hx hb dX12_table_68 rfl hl (Nat.le_of_ble_eq_true rfl) rfl (fun ls hl => ?_)
  obtain ⟨v1, ev1, hX⟩ := mh_nmx hX
  refine lv_iinc (k := 3) (v := v1) (lv' := [(4, .int v1), (3, .int t0), (0, .ref o0), (2, .int x2)]) hx hb dX12_table_69 hl rfl ev1 (Nat.le_of_ble_eq_true rfl) rfl (fun ls hl => ?_)
  refine lv_goto (tgt := 27) hx hb dX12_table_72 rfl ?_
  exact hk27 _ _ _ _ h _ _ ls wd (lv_sub hl [2, 3, 1, 0] rfl) hX
set_option maxRecDepth 100000 in
set_option maxHeartbeats 4000000 in
theorem w_X12_table_b155 {p : Program} {l : Launch} {e : Env} {s : State} {m : MethodId} {args : Array Value} {below : List Frame} {meth : Method} {c : Code} {D : va_G} {ks : Nat → ClassId} {L : List Nat} {h' : mh_H} (k129 : Nat → Int32 → mh_H → Option mh_H) (cx : mh_C p m c cX12_table 8 s args RX12 meth D ks (mh_A L s.heap.size)) (hr : meth.sig.returnType = none)
    (hk129 : ∀ (o0 : Nat) (x4 : Int32) (h : mh_H) (H : Heap) (locs : List Loc) (ls : Array Slot), mh_W D ks L (mh_A L s.heap.size) s.heap h H locs → lv_has ls 8 [(0, .ref o0), (4, .int x4)] → k129 o0 x4 h = some h' → W p l e (mh_rm 1) s m args below meth c H locs 0 0 (MQ below (mh_Qv D ks L s.heap.size h') args s 0 0 (mh_A L s.heap.size)) (F0 m 129 ls [])) :
    ∀ (o0 : Nat) (x4 : Int32) (t0 : Nat) (t1 : Int32) (t2 : Int32) (h : mh_H) (H : Heap) (locs : List Loc) (ls : Array Slot), mh_W D ks L (mh_A L s.heap.size) s.heap h H locs → lv_has ls 8 [(0, .ref o0), (4, .int x4)] → f_X12_table_b155 k129 o0 x4 t0 t1 t2 h = some h' → W p l e (mh_rm 1) s m args below meth c H locs 0 0 (MQ below (mh_Qv D ks L s.heap.size h') args s 0 0 (mh_A L s.heap.size)) (F0 m 155 ls [.int t2, .int t1, .ref t0]) := by
  intro o0 x4 t0 t1 t2 h H locs ls wd hl hX
  have hx := cx.1.1
  have hb := cx.1.2.1
  unfold f_X12_table_b155 at hX
  refine mh_iast cx wd dX12_table_155 hX (fun h2 H locs wd hX => ?_)
  obtain ⟨v3, ev3, hX⟩ := mh_nmx hX
  refine lv_iinc (k := 1) (v := v3) (lv' := [(4, .int v3), (0, .ref o0)]) hx hb dX12_table_156 hl rfl ev3 (Nat.le_of_ble_eq_true rfl) rfl (fun ls hl => ?_)
  refine lv_goto (tgt := 129) hx hb dX12_table_159 rfl ?_
  exact hk129 _ _ h2 _ _ ls wd (lv_sub hl [1, 0] rfl) hX
set_option maxRecDepth 100000 in
set_option maxHeartbeats 4000000 in
theorem w_X12_table_b265 {p : Program} {l : Launch} {e : Env} {s : State} {m : MethodId} {args : Array Value} {below : List Frame} {meth : Method} {c : Code} {D : va_G} {ks : Nat → ClassId} {L : List Nat} {h' : mh_H} (k188 : Nat → Int32 → Int32 → Int32 → mh_H → Option mh_H) (cx : mh_C p m c cX12_table 8 s args RX12 meth D ks (mh_A L s.heap.size)) (hr : meth.sig.returnType = none)
    (hk188 : ∀ (o0 : Nat) (x4 : Int32) (x5 : Int32) (x6 : Int32) (h : mh_H) (H : Heap) (locs : List Loc) (ls : Array Slot), mh_W D ks L (mh_A L s.heap.size) s.heap h H locs → lv_has ls 8 [(0, .ref o0), (4, .int x4), (5, .int x5), (6, .int x6)] → k188 o0 x4 x5 x6 h = some h' → W p l e (mh_rm 1) s m args below meth c H locs 0 0 (MQ below (mh_Qv D ks L s.heap.size h') args s 0 0 (mh_A L s.heap.size)) (F0 m 188 ls [])) :
    ∀ (o0 : Nat) (x4 : Int32) (x5 : Int32) (x6 : Int32) (t0 : Nat) (t1 : Int32) (t2 : Int32) (h : mh_H) (H : Heap) (locs : List Loc) (ls : Array Slot), mh_W D ks L (mh_A L s.heap.size) s.heap h H locs → lv_has ls 8 [(0, .ref o0), (4, .int x4), (5, .int x5), (6, .int x6)] → f_X12_table_b265 k188 o0 x4 x5 x6 t0 t1 t2 h = some h' → W p l e (mh_rm 1) s m args below meth c H locs 0 0 (MQ below (mh_Qv D ks L s.heap.size h') args s 0 0 (mh_A L s.heap.size)) (F0 m 265 ls [.int t2, .int t1, .ref t0]) := by
  intro o0 x4 x5 x6 t0 t1 t2 h H locs ls wd hl hX
  have hx := cx.1.1
  have hb := cx.1.2.1
  unfold f_X12_table_b265 at hX
  refine mh_iast cx wd dX12_table_265 hX (fun h4 H locs wd hX => ?_)
  obtain ⟨v5, ev5, hX⟩ := mh_nmx hX
  refine lv_iinc (k := 3) (v := v5) (lv' := [(6, .int v5), (0, .ref o0), (4, .int x4), (5, .int x5)]) hx hb dX12_table_266 hl rfl ev5 (Nat.le_of_ble_eq_true rfl) rfl (fun ls hl => ?_)
  refine lv_goto (tgt := 188) hx hb dX12_table_269 rfl ?_
  exact hk188 _ _ _ _ h4 _ _ ls wd (lv_sub hl [1, 2, 3, 0] rfl) hX
set_option maxRecDepth 100000 in
set_option maxHeartbeats 4000000 in
theorem w_X12_table_b263 {p : Program} {l : Launch} {e : Env} {s : State} {m : MethodId} {args : Array Value} {below : List Frame} {meth : Method} {c : Code} {D : va_G} {ks : Nat → ClassId} {L : List Nat} {h' : mh_H} (k265 : Nat → Int32 → Int32 → Int32 → Nat → Int32 → Int32 → mh_H → Option mh_H) (cx : mh_C p m c cX12_table 8 s args RX12 meth D ks (mh_A L s.heap.size)) (hr : meth.sig.returnType = none)
    (hk265 : ∀ (o0 : Nat) (x4 : Int32) (x5 : Int32) (x6 : Int32) (t0 : Nat) (t1 : Int32) (t2 : Int32) (h : mh_H) (H : Heap) (locs : List Loc) (ls : Array Slot), mh_W D ks L (mh_A L s.heap.size) s.heap h H locs → lv_has ls 8 [(0, .ref o0), (4, .int x4), (5, .int x5), (6, .int x6)] → k265 o0 x4 x5 x6 t0 t1 t2 h = some h' → W p l e (mh_rm 1) s m args below meth c H locs 0 0 (MQ below (mh_Qv D ks L s.heap.size h') args s 0 0 (mh_A L s.heap.size)) (F0 m 265 ls [.int t2, .int t1, .ref t0])) :
    ∀ (o0 : Nat) (x4 : Int32) (x5 : Int32) (x6 : Int32) (x7 : Int32) (t0 : Nat) (t1 : Int32) (h : mh_H) (H : Heap) (locs : List Loc) (ls : Array Slot), mh_W D ks L (mh_A L s.heap.size) s.heap h H locs → lv_has ls 8 [(0, .ref o0), (4, .int x4), (5, .int x5), (6, .int x6), (7, .int x7)] → f_X12_table_b263 k265 o0 x4 x5 x6 x7 t0 t1 h = some h' → W p l e (mh_rm 1) s m args below meth c H locs 0 0 (MQ below (mh_Qv D ks L s.heap.size h') args s 0 0 (mh_A L s.heap.size)) (F0 m 263 ls [.int t1, .ref t0]) := by
  intro o0 x4 x5 x6 x7 t0 t1 h H locs ls wd hl hX
  have hx := cx.1.1
  have hb := cx.1.2.1
  unfold f_X12_table_b263 at hX
  refine lv_iload hx hb dX12_table_263 (lv_at hl 4 rfl) ?_
  exact hk265 _ _ _ _ _ _ _ h _ _ ls wd (lv_sub hl [0, 1, 2, 3] rfl) hX
set_option maxRecDepth 100000 in
set_option maxHeartbeats 4000000 in
theorem w_X12_table_b272 {p : Program} {l : Launch} {e : Env} {s : State} {m : MethodId} {args : Array Value} {below : List Frame} {meth : Method} {c : Code} {D : va_G} {ks : Nat → ClassId} {L : List Nat} {h' : mh_H} (k165 : Nat → Int32 → mh_H → Option mh_H) (cx : mh_C p m c cX12_table 8 s args RX12 meth D ks (mh_A L s.heap.size)) (hr : meth.sig.returnType = none)
    (hk165 : ∀ (o0 : Nat) (x4 : Int32) (h : mh_H) (H : Heap) (locs : List Loc) (ls : Array Slot), mh_W D ks L (mh_A L s.heap.size) s.heap h H locs → lv_has ls 8 [(0, .ref o0), (4, .int x4)] → k165 o0 x4 h = some h' → W p l e (mh_rm 1) s m args below meth c H locs 0 0 (MQ below (mh_Qv D ks L s.heap.size h') args s 0 0 (mh_A L s.heap.size)) (F0 m 165 ls [])) :
    ∀ (o0 : Nat) (x4 : Int32) (h : mh_H) (H : Heap) (locs : List Loc) (ls : Array Slot), mh_W D ks L (mh_A L s.heap.size) s.heap h H locs → lv_has ls 8 [(0, .ref o0), (4, .int x4)] → f_X12_table_b272 k165 o0 x4 h = some h' → W p l e (mh_rm 1) s m args below meth c H locs 0 0 (MQ below (mh_Qv D ks L s.heap.size h') args s 0 0 (mh_A L s.heap.size)) (F0 m 272 ls []) := by
  intro o0 x4 h H locs ls wd hl hX
  have hx := cx.1.1
  have hb := cx.1.2.1
  unfold f_X12_table_b272 at hX
  obtain ⟨v6, ev6, hX⟩ := mh_nmx hX
  refine lv_iinc (k := 1) (v := v6) (lv' := [(4, .int v6), (0, .ref o0)]) hx hb dX12_table_272 hl rfl ev6 (Nat.le_of_ble_eq_true rfl) rfl (fun ls hl => ?_)
  refine lv_goto (tgt := 165) hx hb dX12_table_275 rfl ?_
  exact hk165 _ _ h _ _ ls wd (lv_sub hl [1, 0] rfl) hX
set_option maxRecDepth 100000 in
set_option maxHeartbeats 4000000 in
theorem w_X12_table_b188 {p : Program} {l : Launch} {e : Env} {s : State} {m : MethodId} {args : Array Value} {below : List Frame} {meth : Method} {c : Code} {D : va_G} {ks : Nat → ClassId} {L : List Nat} {h' : mh_H} (k165 : Nat → Int32 → mh_H → Option mh_H) (cx : mh_C p m c cX12_table 8 s args RX12 meth D ks (mh_A L s.heap.size)) (hr : meth.sig.returnType = none)
    (hk165 : ∀ (o0 : Nat) (x4 : Int32) (h : mh_H) (H : Heap) (locs : List Loc) (ls : Array Slot), mh_W D ks L (mh_A L s.heap.size) s.heap h H locs → lv_has ls 8 [(0, .ref o0), (4, .int x4)] → k165 o0 x4 h = some h' → W p l e (mh_rm 1) s m args below meth c H locs 0 0 (MQ below (mh_Qv D ks L s.heap.size h') args s 0 0 (mh_A L s.heap.size)) (F0 m 165 ls [])) :
    ∀ n : Nat, ∀ (o0 : Nat) (x4 : Int32) (x5 : Int32) (x6 : Int32) (h : mh_H) (H : Heap) (locs : List Loc) (ls : Array Slot), mh_W D ks L (mh_A L s.heap.size) s.heap h H locs → lv_has ls 8 [(0, .ref o0), (4, .int x4), (5, .int x5), (6, .int x6)] → f_X12_table_b188 k165 n o0 x4 x5 x6 h = some h' → W p l e (mh_rm 1) s m args below meth c H locs 0 0 (MQ below (mh_Qv D ks L s.heap.size h') args s 0 0 (mh_A L s.heap.size)) (F0 m 188 ls []) := by
  intro n
  induction n with
  | zero =>
    intro o0 x4 x5 x6 h H locs ls wd hl hX
    cases hX
  | succ n ih =>
    intro o0 x4 x5 x6 h H locs ls wd hl hX
    have hx := cx.1.1
    have hb := cx.1.2.1
    rw [f_X12_table_b188] at hX
    refine lv_iload hx hb dX12_table_188 (lv_at hl 3 rfl) ?_
    refine mh_ldc cx kc_X12_125 dX12_table_190 ?_
    refine lv_icmp_gt (tgt := 272) hx hb dX12_table_192 rfl (fun hc => (fun hX => ?_) ((mh_if hX).1 hc)) (fun hc => (fun hX => ?_) ((mh_if hX).2 hc))
    · exact w_X12_table_b272 k165 cx hr hk165 _ _ h _ _ ls wd (lv_sub hl [0, 1] rfl) hX
    · refine lv_aload_n hx hb dX12_table_195 rfl (lv_at hl 0 rfl) ?_
      refine mh_getR cx wd fl_X12_26 dX12_table_196 hX (fun a7 hX => ?_)
      refine lv_iload hx hb dX12_table_199 (lv_at hl 1 rfl) ?_
      refine lv_iconst (v := 1) hx hb dX12_table_201 (by decide) ?_
      refine lv_isub hx hb dX12_table_202 ?_
      refine mh_aald cx wd 5 rfl rfl dX12_table_203 hX (fun a8 hX => ?_)
      refine lv_iload hx hb dX12_table_204 (lv_at hl 3 rfl) ?_
      refine mh_iald cx wd dX12_table_206 hX (fun v9 hX => ?_)
      refine lv_istore (lv' := [(7, .int v9), (0, .ref o0), (4, .int x4), (5, .int x5), (6, .int x6)]) hx hb dX12_table_207 hl (Nat.le_of_ble_eq_true rfl) rfl (fun ls hl => ?_)
      refine lv_aload_n hx hb dX12_table_209 rfl (lv_at hl 1 rfl) ?_
      refine mh_getR cx wd fl_X12_26 dX12_table_210 hX (fun a10 hX => ?_)
      refine lv_iload hx hb dX12_table_213 (lv_at hl 2 rfl) ?_
      refine mh_aald cx wd 5 rfl rfl dX12_table_215 hX (fun a11 hX => ?_)
      refine lv_iload hx hb dX12_table_216 (lv_at hl 4 rfl) ?_
      refine lv_iload hx hb dX12_table_218 (lv_at hl 4 rfl) ?_
      refine lv_iload hx hb dX12_table_220 (lv_at hl 3 rfl) ?_
      refine lv_icmp_lt (tgt := 263) hx hb dX12_table_222 rfl (fun hc => (fun hX => ?_) ((mh_if hX).1 hc)) (fun hc => (fun hX => ?_) ((mh_if hX).2 hc))
      · exact w_X12_table_b263 (f_X12_table_b265 (f_X12_table_b188 k165 n)) cx hr (w_X12_table_b265 (f_X12_table_b188 k165 n) cx hr ih) _ _ _ _ _ _ _ h _ _ ls wd (lv_sub hl [1, 2, 3, 4, 0] rfl) hX
      · refine lv_aload_n hx hb dX12_table_225 rfl (lv_at hl 1 rfl) ?_
        refine mh_getR cx wd fl_X12_26 dX12_table_226 hX (fun a12 hX => ?_)
        refine lv_iload hx hb dX12_table_229 (lv_at hl 2 rfl) ?_
        refine mh_aald cx wd 5 rfl rfl dX12_table_231 hX (fun a13 hX => ?_)
        refine lv_iload hx hb dX12_table_232 (lv_at hl 4 rfl) ?_
        refine lv_iload hx hb dX12_table_234 (lv_at hl 3 rfl) ?_
        refine lv_isub hx hb dX12_table_236 ?_
        refine mh_iald cx wd dX12_table_237 hX (fun v14 hX => ?_)
        refine lv_iconst (v := 1) hx hb dX12_table_238 (by decide) ?_
        refine lv_iadd hx hb dX12_table_239 ?_
        refine lv_iload hx hb dX12_table_240 (lv_at hl 0 rfl) ?_
        refine lv_icmp_ge (tgt := 263) hx hb dX12_table_242 rfl (fun hc => (fun hX => ?_) ((mh_if hX).1 hc)) (fun hc => (fun hX => ?_) ((mh_if hX).2 hc))
        · exact w_X12_table_b263 (f_X12_table_b265 (f_X12_table_b188 k165 n)) cx hr (w_X12_table_b265 (f_X12_table_b188 k165 n) cx hr ih) _ _ _ _ _ _ _ h _ _ ls wd (lv_sub hl [1, 2, 3, 4, 0] rfl) hX
        · refine lv_aload_n hx hb dX12_table_245 rfl (lv_at hl 1 rfl) ?_
          refine mh_getR cx wd fl_X12_26 dX12_table_246 hX (fun a15 hX => ?_)
          refine lv_iload hx hb dX12_table_249 (lv_at hl 2 rfl) ?_
          refine mh_aald cx wd 5 rfl rfl dX12_table_251 hX (fun a16 hX => ?_)
          refine lv_iload hx hb dX12_table_252 (lv_at hl 4 rfl) ?_
          refine lv_iload hx hb dX12_table_254 (lv_at hl 3 rfl) ?_
          refine lv_isub hx hb dX12_table_256 ?_
          refine mh_iald cx wd dX12_table_257 hX (fun v17 hX => ?_)
          refine lv_iconst (v := 1) hx hb dX12_table_258 (by decide) ?_
          refine lv_iadd hx hb dX12_table_259 ?_
          refine lv_goto (tgt := 265) hx hb dX12_table_260 rfl ?_
          exact w_X12_table_b265 (f_X12_table_b188 k165 n) cx hr ih _ _ _ _ _ _ _ h _ _ ls wd (lv_sub hl [1, 2, 3, 4] rfl) hX
set_option maxRecDepth 100000 in
set_option maxHeartbeats 4000000 in
theorem w_X12_table_b278 {p : Program} {l : Launch} {e : Env} {s : State} {m : MethodId} {args : Array Value} {below : List Frame} {meth : Method} {c : Code} {D : va_G} {ks : Nat → ClassId} {L : List Nat} {h' : mh_H} (cx : mh_C p m c cX12_table 8 s args RX12 meth D ks (mh_A L s.heap.size)) (hr : meth.sig.returnType = none) :
    ∀ (h : mh_H) (H : Heap) (locs : List Loc) (ls : Array Slot), mh_W D ks L (mh_A L s.heap.size) s.heap h H locs → lv_has ls 8 [] → f_X12_table_b278  h = some h' → W p l e (mh_rm 1) s m args below meth c H locs 0 0 (MQ below (mh_Qv D ks L s.heap.size h') args s 0 0 (mh_A L s.heap.size)) (F0 m 278 ls []) := by
  intro  h H locs ls wd hl hX
  have hx := cx.1.1
  have hb := cx.1.2.1
  unfold f_X12_table_b278 at hX
  exact mh_vret cx wd hr hX dX12_table_278
set_option maxRecDepth 100000 in
set_option maxHeartbeats 4000000 in
theorem w_X12_table_b165 {p : Program} {l : Launch} {e : Env} {s : State} {m : MethodId} {args : Array Value} {below : List Frame} {meth : Method} {c : Code} {D : va_G} {ks : Nat → ClassId} {L : List Nat} {h' : mh_H} (cx : mh_C p m c cX12_table 8 s args RX12 meth D ks (mh_A L s.heap.size)) (hr : meth.sig.returnType = none) :
    ∀ n : Nat, ∀ (o0 : Nat) (x4 : Int32) (h : mh_H) (H : Heap) (locs : List Loc) (ls : Array Slot), mh_W D ks L (mh_A L s.heap.size) s.heap h H locs → lv_has ls 8 [(0, .ref o0), (4, .int x4)] → f_X12_table_b165 n o0 x4 h = some h' → W p l e (mh_rm 1) s m args below meth c H locs 0 0 (MQ below (mh_Qv D ks L s.heap.size h') args s 0 0 (mh_A L s.heap.size)) (F0 m 165 ls []) := by
  intro n
  induction n with
  | zero =>
    intro o0 x4 h H locs ls wd hl hX
    cases hX
  | succ n ih =>
    intro o0 x4 h H locs ls wd hl hX
    have hx := cx.1.1
    have hb := cx.1.2.1
    rw [f_X12_table_b165] at hX
    refine lv_iload hx hb dX12_table_165 (lv_at hl 1 rfl) ?_
    refine lv_aload_n hx hb dX12_table_167 rfl (lv_at hl 0 rfl) ?_
    refine mh_getI cx wd fl_X12_21 dX12_table_168 hX (fun v18 hX => ?_)
    refine lv_icmp_gt (tgt := 278) hx hb dX12_table_171 rfl (fun hc => (fun hX => ?_) ((mh_if hX).1 hc)) (fun hc => (fun hX => ?_) ((mh_if hX).2 hc))
    · exact w_X12_table_b278 cx hr  h _ _ ls wd (lv_sub hl [] rfl) hX
    · refine lv_aload_n hx hb dX12_table_174 rfl (lv_at hl 0 rfl) ?_
      refine mh_getR cx wd fl_X12_18 dX12_table_175 hX (fun a19 hX => ?_)
      refine lv_iload hx hb dX12_table_178 (lv_at hl 1 rfl) ?_
      refine lv_iconst (v := 1) hx hb dX12_table_180 (by decide) ?_
      refine lv_isub hx hb dX12_table_181 ?_
      refine mh_iald cx wd dX12_table_182 hX (fun v20 hX => ?_)
      refine lv_istore (lv' := [(5, .int v20), (0, .ref o0), (4, .int x4)]) hx hb dX12_table_183 hl (Nat.le_of_ble_eq_true rfl) rfl (fun ls hl => ?_)
      refine lv_iconst (v := 0) hx hb dX12_table_185 (by decide) ?_
      refine mh_topi hX (fun v21 hX => ?_)
      refine lv_istore (lv' := [(6, .int v21), (5, .int v20), (0, .ref o0), (4, .int x4)]) hx hb dX12_table_186 hl (Nat.le_of_ble_eq_true rfl) rfl (fun ls hl => ?_)
      exact w_X12_table_b188 (f_X12_table_b165 n) cx hr ih mh_fu _ _ _ _ h _ _ ls wd (lv_sub hl [2, 3, 1, 0] rfl) hX
set_option maxRecDepth 100000 in
set_option maxHeartbeats 4000000 in
theorem w_X12_table_b162 {p : Program} {l : Launch} {e : Env} {s : State} {m : MethodId} {args : Array Value} {below : List Frame} {meth : Method} {c : Code} {D : va_G} {ks : Nat → ClassId} {L : List Nat} {h' : mh_H} (cx : mh_C p m c cX12_table 8 s args RX12 meth D ks (mh_A L s.heap.size)) (hr : meth.sig.returnType = none) :
    ∀ (o0 : Nat) (h : mh_H) (H : Heap) (locs : List Loc) (ls : Array Slot), mh_W D ks L (mh_A L s.heap.size) s.heap h H locs → lv_has ls 8 [(0, .ref o0)] → f_X12_table_b162 o0 h = some h' → W p l e (mh_rm 1) s m args below meth c H locs 0 0 (MQ below (mh_Qv D ks L s.heap.size h') args s 0 0 (mh_A L s.heap.size)) (F0 m 162 ls []) := by
  intro o0 h H locs ls wd hl hX
  have hx := cx.1.1
  have hb := cx.1.2.1
  unfold f_X12_table_b162 at hX
  refine lv_iconst (v := 1) hx hb dX12_table_162 (by decide) ?_
  refine mh_topi hX (fun v22 hX => ?_)
  refine lv_istore (lv' := [(4, .int v22), (0, .ref o0)]) hx hb dX12_table_163 hl (Nat.le_of_ble_eq_true rfl) rfl (fun ls hl => ?_)
  exact w_X12_table_b165 cx hr mh_fu _ _ h _ _ ls wd (lv_sub hl [1, 0] rfl) hX
set_option maxRecDepth 100000 in
set_option maxHeartbeats 4000000 in
theorem w_X12_table_b129 {p : Program} {l : Launch} {e : Env} {s : State} {m : MethodId} {args : Array Value} {below : List Frame} {meth : Method} {c : Code} {D : va_G} {ks : Nat → ClassId} {L : List Nat} {h' : mh_H} (cx : mh_C p m c cX12_table 8 s args RX12 meth D ks (mh_A L s.heap.size)) (hr : meth.sig.returnType = none) :
    ∀ n : Nat, ∀ (o0 : Nat) (x4 : Int32) (h : mh_H) (H : Heap) (locs : List Loc) (ls : Array Slot), mh_W D ks L (mh_A L s.heap.size) s.heap h H locs → lv_has ls 8 [(0, .ref o0), (4, .int x4)] → f_X12_table_b129 n o0 x4 h = some h' → W p l e (mh_rm 1) s m args below meth c H locs 0 0 (MQ below (mh_Qv D ks L s.heap.size h') args s 0 0 (mh_A L s.heap.size)) (F0 m 129 ls []) := by
  intro n
  induction n with
  | zero =>
    intro o0 x4 h H locs ls wd hl hX
    cases hX
  | succ n ih =>
    intro o0 x4 h H locs ls wd hl hX
    have hx := cx.1.1
    have hb := cx.1.2.1
    rw [f_X12_table_b129] at hX
    refine lv_iload hx hb dX12_table_129 (lv_at hl 1 rfl) ?_
    refine mh_ldc cx kc_X12_125 dX12_table_131 ?_
    refine lv_icmp_gt (tgt := 162) hx hb dX12_table_133 rfl (fun hc => (fun hX => ?_) ((mh_if hX).1 hc)) (fun hc => (fun hX => ?_) ((mh_if hX).2 hc))
    · exact w_X12_table_b162 cx hr _ h _ _ ls wd (lv_sub hl [0] rfl) hX
    · refine lv_aload_n hx hb dX12_table_136 rfl (lv_at hl 0 rfl) ?_
      refine mh_getR cx wd fl_X12_26 dX12_table_137 hX (fun a23 hX => ?_)
      refine lv_iconst (v := 0) hx hb dX12_table_140 (by decide) ?_
      refine mh_aald cx wd 5 rfl rfl dX12_table_141 hX (fun a24 hX => ?_)
      refine lv_iload hx hb dX12_table_142 (lv_at hl 1 rfl) ?_
      refine lv_iload hx hb dX12_table_144 (lv_at hl 1 rfl) ?_
      refine lv_if_ne (tgt := 153) hx hb dX12_table_146 rfl (fun hc => (fun hX => ?_) ((mh_if hX).2 hc)) (fun hc => (fun hX => ?_) ((mh_if hX).1 hc))
      · refine mh_ldc cx kc_X12_126 dX12_table_153 ?_
        exact w_X12_table_b155 (f_X12_table_b129 n) cx hr ih _ _ _ _ _ h _ _ ls wd (lv_sub hl [0, 1] rfl) hX
      · refine lv_iconst (v := 0) hx hb dX12_table_149 (by decide) ?_
        refine lv_goto (tgt := 155) hx hb dX12_table_150 rfl ?_
        exact w_X12_table_b155 (f_X12_table_b129 n) cx hr ih _ _ _ _ _ h _ _ ls wd (lv_sub hl [0, 1] rfl) hX
set_option maxRecDepth 100000 in
set_option maxHeartbeats 4000000 in
theorem w_X12_table_b126 {p : Program} {l : Launch} {e : Env} {s : State} {m : MethodId} {args : Array Value} {below : List Frame} {meth : Method} {c : Code} {D : va_G} {ks : Nat → ClassId} {L : List Nat} {h' : mh_H} (cx : mh_C p m c cX12_table 8 s args RX12 meth D ks (mh_A L s.heap.size)) (hr : meth.sig.returnType = none) :
    ∀ (o0 : Nat) (h : mh_H) (H : Heap) (locs : List Loc) (ls : Array Slot), mh_W D ks L (mh_A L s.heap.size) s.heap h H locs → lv_has ls 8 [(0, .ref o0)] → f_X12_table_b126 o0 h = some h' → W p l e (mh_rm 1) s m args below meth c H locs 0 0 (MQ below (mh_Qv D ks L s.heap.size h') args s 0 0 (mh_A L s.heap.size)) (F0 m 126 ls []) := by
  intro o0 h H locs ls wd hl hX
  have hx := cx.1.1
  have hb := cx.1.2.1
  unfold f_X12_table_b126 at hX
  refine lv_iconst (v := 0) hx hb dX12_table_126 (by decide) ?_
  refine mh_topi hX (fun v25 hX => ?_)
  refine lv_istore (lv' := [(4, .int v25), (0, .ref o0)]) hx hb dX12_table_127 hl (Nat.le_of_ble_eq_true rfl) rfl (fun ls hl => ?_)
  exact w_X12_table_b129 cx hr mh_fu _ _ h _ _ ls wd (lv_sub hl [1, 0] rfl) hX
set_option maxRecDepth 100000 in
set_option maxHeartbeats 4000000 in
theorem w_X12_table_b93 {p : Program} {l : Launch} {e : Env} {s : State} {m : MethodId} {args : Array Value} {below : List Frame} {meth : Method} {c : Code} {D : va_G} {ks : Nat → ClassId} {L : List Nat} {h' : mh_H} (cx : mh_C p m c cX12_table 8 s args RX12 meth D ks (mh_A L s.heap.size)) (hr : meth.sig.returnType = none) :
    ∀ n : Nat, ∀ (o0 : Nat) (x2 : Int32) (x4 : Int32) (h : mh_H) (H : Heap) (locs : List Loc) (ls : Array Slot), mh_W D ks L (mh_A L s.heap.size) s.heap h H locs → lv_has ls 8 [(0, .ref o0), (2, .int x2), (4, .int x4)] → f_X12_table_b93 n o0 x2 x4 h = some h' → W p l e (mh_rm 1) s m args below meth c H locs 0 0 (MQ below (mh_Qv D ks L s.heap.size h') args s 0 0 (mh_A L s.heap.size)) (F0 m 93 ls []) := by
  intro n
  induction n with
  | zero =>
    intro o0 x2 x4 h H locs ls wd hl hX
    cases hX
  | succ n ih =>
    intro o0 x2 x4 h H locs ls wd hl hX
    have hx := cx.1.1
    have hb := cx.1.2.1
    rw [f_X12_table_b93] at hX
    refine lv_iload hx hb dX12_table_93 (lv_at hl 2 rfl) ?_
    refine lv_aload_n hx hb dX12_table_95 rfl (lv_at hl 0 rfl) ?_
    refine mh_getI cx wd fl_X12_21 dX12_table_96 hX (fun v26 hX => ?_)
    refine lv_icmp_ge (tgt := 126) hx hb dX12_table_99 rfl (fun hc => (fun hX => ?_) ((mh_if hX).1 hc)) (fun hc => (fun hX => ?_) ((mh_if hX).2 hc))
    · exact w_X12_table_b126 cx hr _ h _ _ ls wd (lv_sub hl [0] rfl) hX
    · refine lv_aload_n hx hb dX12_table_102 rfl (lv_at hl 0 rfl) ?_
      refine mh_getR cx wd fl_X12_18 dX12_table_103 hX (fun a27 hX => ?_)
      refine lv_iload hx hb dX12_table_106 (lv_at hl 2 rfl) ?_
      refine lv_aload_n hx hb dX12_table_108 rfl (lv_at hl 0 rfl) ?_
      refine mh_getR cx wd fl_X12_9 dX12_table_109 hX (fun a28 hX => ?_)
      refine lv_iload_n hx hb dX12_table_112 rfl (lv_at hl 1 rfl) ?_
      refine lv_iconst (v := 1) hx hb dX12_table_113 (by decide) ?_
      refine lv_iadd hx hb dX12_table_114 ?_
      refine lv_iload hx hb dX12_table_115 (lv_at hl 2 rfl) ?_
      refine lv_iadd hx hb dX12_table_117 ?_
      refine mh_iald cx wd dX12_table_118 hX (fun v29 hX => ?_)
      refine mh_iast cx wd dX12_table_119 hX (fun h30 H locs wd hX => ?_)
      obtain ⟨v31, ev31, hX⟩ := mh_nmx hX
      refine lv_iinc (k := 2) (v := v31) (lv' := [(4, .int v31), (0, .ref o0), (2, .int x2)]) hx hb dX12_table_120 hl rfl ev31 (Nat.le_of_ble_eq_true rfl) rfl (fun ls hl => ?_)
      refine lv_goto (tgt := 93) hx hb dX12_table_123 rfl ?_
      exact ih _ _ _ h30 _ _ ls wd (lv_sub hl [1, 2, 0] rfl) hX
set_option maxRecDepth 100000 in
set_option maxHeartbeats 4000000 in
theorem w_X12_table_b75 {p : Program} {l : Launch} {e : Env} {s : State} {m : MethodId} {args : Array Value} {below : List Frame} {meth : Method} {c : Code} {D : va_G} {ks : Nat → ClassId} {L : List Nat} {h' : mh_H} (cx : mh_C p m c cX12_table 8 s args RX12 meth D ks (mh_A L s.heap.size)) (hr : meth.sig.returnType = none) :
    ∀ (o0 : Nat) (x2 : Int32) (x3 : Int32) (h : mh_H) (H : Heap) (locs : List Loc) (ls : Array Slot), mh_W D ks L (mh_A L s.heap.size) s.heap h H locs → lv_has ls 8 [(0, .ref o0), (2, .int x2), (3, .int x3)] → f_X12_table_b75 o0 x2 x3 h = some h' → W p l e (mh_rm 1) s m args below meth c H locs 0 0 (MQ below (mh_Qv D ks L s.heap.size h') args s 0 0 (mh_A L s.heap.size)) (F0 m 75 ls []) := by
  intro o0 x2 x3 h H locs ls wd hl hX
  have hx := cx.1.1
  have hb := cx.1.2.1
  unfold f_X12_table_b75 at hX
  refine lv_iload_n hx hb dX12_table_75 rfl (lv_at hl 2 rfl) ?_
  refine lv_if_eq (tgt := 80) hx hb dX12_table_76 rfl (fun hc => (fun hX => ?_) ((mh_if hX).1 hc)) (fun hc => (fun hX => ?_) ((mh_if hX).2 hc))
  · refine lv_aload_n hx hb dX12_table_80 rfl (lv_at hl 0 rfl) ?_
    refine lv_aload_n hx hb dX12_table_81 rfl (lv_at hl 0 rfl) ?_
    refine mh_getR cx wd fl_X12_9 dX12_table_82 hX (fun a32 hX => ?_)
    refine lv_iload_n hx hb dX12_table_85 rfl (lv_at hl 1 rfl) ?_
    refine mh_iald cx wd dX12_table_86 hX (fun v33 hX => ?_)
    refine mh_putI cx wd fp_X12_21 dX12_table_87 hX (fun h34 H locs wd hX => ?_)
    refine lv_iconst (v := 0) hx hb dX12_table_90 (by decide) ?_
    refine mh_topi hX (fun v35 hX => ?_)
    refine lv_istore (lv' := [(4, .int v35), (0, .ref o0), (2, .int x2), (3, .int x3)]) hx hb dX12_table_91 hl (Nat.le_of_ble_eq_true rfl) rfl (fun ls hl => ?_)
    exact w_X12_table_b93 cx hr mh_fu _ _ _ h34 _ _ ls wd (lv_sub hl [1, 2, 0] rfl) hX
  · exact mh_vret cx wd hr hX dX12_table_79
set_option maxRecDepth 100000 in
set_option maxHeartbeats 4000000 in
theorem w_X12_table_b27 {p : Program} {l : Launch} {e : Env} {s : State} {m : MethodId} {args : Array Value} {below : List Frame} {meth : Method} {c : Code} {D : va_G} {ks : Nat → ClassId} {L : List Nat} {h' : mh_H} (cx : mh_C p m c cX12_table 8 s args RX12 meth D ks (mh_A L s.heap.size)) (hr : meth.sig.returnType = none) :
    ∀ n : Nat, ∀ (o0 : Nat) (x2 : Int32) (x3 : Int32) (x4 : Int32) (h : mh_H) (H : Heap) (locs : List Loc) (ls : Array Slot), mh_W D ks L (mh_A L s.heap.size) s.heap h H locs → lv_has ls 8 [(0, .ref o0), (2, .int x2), (3, .int x3), (4, .int x4)] → f_X12_table_b27 n o0 x2 x3 x4 h = some h' → W p l e (mh_rm 1) s m args below meth c H locs 0 0 (MQ below (mh_Qv D ks L s.heap.size h') args s 0 0 (mh_A L s.heap.size)) (F0 m 27 ls []) := by
  intro n
  induction n with
  | zero =>
    intro o0 x2 x3 x4 h H locs ls wd hl hX
    cases hX
  | succ n ih =>
    intro o0 x2 x3 x4 h H locs ls wd hl hX
    have hx := cx.1.1
    have hb := cx.1.2.1
    rw [f_X12_table_b27] at hX
    refine lv_iload hx hb dX12_table_27 (lv_at hl 3 rfl) ?_
    refine lv_aload_n hx hb dX12_table_29 rfl (lv_at hl 0 rfl) ?_
    refine mh_getR cx wd fl_X12_9 dX12_table_30 hX (fun a36 hX => ?_)
    refine lv_iload_n hx hb dX12_table_33 rfl (lv_at hl 1 rfl) ?_
    refine mh_iald cx wd dX12_table_34 hX (fun v37 hX => ?_)
    refine lv_icmp_ge (tgt := 75) hx hb dX12_table_35 rfl (fun hc => (fun hX => ?_) ((mh_if hX).1 hc)) (fun hc => (fun hX => ?_) ((mh_if hX).2 hc))
    · exact w_X12_table_b75 cx hr _ _ _ h _ _ ls wd (lv_sub hl [0, 1, 2] rfl) hX
    · refine lv_iload_n hx hb dX12_table_38 rfl (lv_at hl 2 rfl) ?_
      refine lv_if_eq (tgt := 75) hx hb dX12_table_39 rfl (fun hc => (fun hX => ?_) ((mh_if hX).1 hc)) (fun hc => (fun hX => ?_) ((mh_if hX).2 hc))
      · exact w_X12_table_b75 cx hr _ _ _ h _ _ ls wd (lv_sub hl [0, 1, 2] rfl) hX
      · refine lv_aload_n hx hb dX12_table_42 rfl (lv_at hl 0 rfl) ?_
        refine mh_getR cx wd fl_X12_18 dX12_table_43 hX (fun a38 hX => ?_)
        refine lv_iload hx hb dX12_table_46 (lv_at hl 3 rfl) ?_
        refine mh_iald cx wd dX12_table_48 hX (fun v39 hX => ?_)
        refine lv_aload_n hx hb dX12_table_49 rfl (lv_at hl 0 rfl) ?_
        refine mh_getR cx wd fl_X12_9 dX12_table_50 hX (fun a40 hX => ?_)
        refine lv_iload_n hx hb dX12_table_53 rfl (lv_at hl 1 rfl) ?_
        refine lv_iconst (v := 1) hx hb dX12_table_54 (by decide) ?_
        refine lv_iadd hx hb dX12_table_55 ?_
        refine lv_iload hx hb dX12_table_56 (lv_at hl 3 rfl) ?_
        refine lv_iadd hx hb dX12_table_58 ?_
        refine mh_iald cx wd dX12_table_59 hX (fun v41 hX => ?_)
        refine lv_icmp_ne (tgt := 67) hx hb dX12_table_60 rfl (fun hc => (fun hX => ?_) ((mh_if hX).2 hc)) (fun hc => (fun hX => ?_) ((mh_if hX).1 hc))
        · refine lv_iconst (v := 0) hx hb dX12_table_67 (by decide) ?_
          exact w_X12_table_b68 (f_X12_table_b27 n) cx hr ih _ _ _ _ h _ _ ls wd (lv_sub hl [0, 1, 3] rfl) hX
        · refine lv_iconst (v := 1) hx hb dX12_table_63 (by decide) ?_
          refine lv_goto (tgt := 68) hx hb dX12_table_64 rfl ?_
          exact w_X12_table_b68 (f_X12_table_b27 n) cx hr ih _ _ _ _ h _ _ ls wd (lv_sub hl [0, 1, 3] rfl) hX
set_option maxRecDepth 100000 in
set_option maxHeartbeats 4000000 in
theorem w_X12_table_b23 {p : Program} {l : Launch} {e : Env} {s : State} {m : MethodId} {args : Array Value} {below : List Frame} {meth : Method} {c : Code} {D : va_G} {ks : Nat → ClassId} {L : List Nat} {h' : mh_H} (cx : mh_C p m c cX12_table 8 s args RX12 meth D ks (mh_A L s.heap.size)) (hr : meth.sig.returnType = none) :
    ∀ (o0 : Nat) (x2 : Int32) (t0 : Int32) (h : mh_H) (H : Heap) (locs : List Loc) (ls : Array Slot), mh_W D ks L (mh_A L s.heap.size) s.heap h H locs → lv_has ls 8 [(0, .ref o0), (2, .int x2)] → f_X12_table_b23 o0 x2 t0 h = some h' → W p l e (mh_rm 1) s m args below meth c H locs 0 0 (MQ below (mh_Qv D ks L s.heap.size h') args s 0 0 (mh_A L s.heap.size)) (F0 m 23 ls [.int t0]) := by
  intro o0 x2 t0 h H locs ls wd hl hX
  have hx := cx.1.1
  have hb := cx.1.2.1
  unfold f_X12_table_b23 at hX
  refine lv_istore_n (lv' := [(3, .int t0), (0, .ref o0), (2, .int x2)]) hx hb dX12_table_23 rfl hl (Nat.le_of_ble_eq_true rfl) rfl (fun ls hl => ?_)
  refine lv_iconst (v := 0) hx hb dX12_table_24 (by decide) ?_
  refine mh_topi hX (fun v42 hX => ?_)
  refine lv_istore (lv' := [(4, .int v42), (3, .int t0), (0, .ref o0), (2, .int x2)]) hx hb dX12_table_25 hl (Nat.le_of_ble_eq_true rfl) rfl (fun ls hl => ?_)
  exact w_X12_table_b27 cx hr mh_fu _ _ _ _ h _ _ ls wd (lv_sub hl [2, 3, 1, 0] rfl) hX
set_option maxRecDepth 100000 in
set_option maxHeartbeats 4000000 in
theorem w_X12_table_e {p : Program} {l : Launch} {e : Env} {s : State} {m : MethodId} {args : Array Value} {below : List Frame} {meth : Method} {c : Code} {D : va_G} {ks : Nat → ClassId} {L : List Nat} {h' : mh_H} (cx : mh_C p m c cX12_table 8 s args RX12 meth D ks (mh_A L s.heap.size)) (hr : meth.sig.returnType = none) :
    ∀ (o0 : Nat) (x1 : Int32) (h : mh_H) (H : Heap) (locs : List Loc) (ls : Array Slot), mh_W D ks L (mh_A L s.heap.size) s.heap h H locs → lv_has ls 8 [(0, .ref o0), (1, .int x1)] → f_X12_table_e o0 x1 h = some h' → W p l e (mh_rm 1) s m args below meth c H locs 0 0 (MQ below (mh_Qv D ks L s.heap.size h') args s 0 0 (mh_A L s.heap.size)) (F0 m 0 ls []) := by
  intro o0 x1 h H locs ls wd hl hX
  have hx := cx.1.1
  have hb := cx.1.2.1
  unfold f_X12_table_e at hX
  refine lv_iload_n hx hb dX12_table_0 rfl (lv_at hl 1 rfl) ?_
  refine mh_callSI cx wd [.int x1] yw_X12_mintAt sw_X12_115 rfl hl.1 rfl (Nat.le_of_ble_eq_true rfl) dX12_table_1 ⟨Nat.le_of_ble_eq_true rfl, Nat.le_of_ble_eq_true rfl⟩ ⟨Nat.le_refl _, Nat.le_refl _⟩ (fun _ _ q => c_X12_mintAt q) hX (fun v44 h43 H locs wd hX => ?_)
  refine lv_istore_n (lv' := [(2, .int v44), (0, .ref o0), (1, .int x1)]) hx hb dX12_table_4 rfl hl (Nat.le_of_ble_eq_true rfl) rfl (fun ls hl => ?_)
  refine lv_aload_n hx hb dX12_table_5 rfl (lv_at hl 1 rfl) ?_
  refine mh_getI cx wd fl_X12_21 dX12_table_6 hX (fun v45 hX => ?_)
  refine lv_aload_n hx hb dX12_table_9 rfl (lv_at hl 1 rfl) ?_
  refine mh_getR cx wd fl_X12_9 dX12_table_10 hX (fun a46 hX => ?_)
  refine lv_iload_n hx hb dX12_table_13 rfl (lv_at hl 0 rfl) ?_
  refine mh_iald cx wd dX12_table_14 hX (fun v47 hX => ?_)
  refine lv_icmp_ne (tgt := 22) hx hb dX12_table_15 rfl (fun hc => (fun hX => ?_) ((mh_if hX).2 hc)) (fun hc => (fun hX => ?_) ((mh_if hX).1 hc))
  · refine lv_iconst (v := 0) hx hb dX12_table_22 (by decide) ?_
    exact w_X12_table_b23 cx hr _ _ _ h43 _ _ ls wd (lv_sub hl [1, 0] rfl) hX
  · refine lv_iconst (v := 1) hx hb dX12_table_18 (by decide) ?_
    refine lv_goto (tgt := 23) hx hb dX12_table_19 rfl ?_
    exact w_X12_table_b23 cx hr _ _ _ h43 _ _ ls wd (lv_sub hl [1, 0] rfl) hX
set_option maxRecDepth 100000 in
theorem c_X12_table {l : Launch} {L : List Nat} {h h' : mh_H} {o0 : Nat} {x1 : Int32} (hX : f_X12_table_e o0 x1 h = some h') : mh_MV l yX12_table (Cond.code yX12_table cX12_table 8 none :: mh_TB) (mh_rm 1) [.ref o0, .int x1] L h h' :=
  mh_of (mc := 0) (ms := 0) (Qc := fun D ks sz => mh_Qv D ks L sz h') (plainFor_of_name (by decide)) (Nat.le_of_ble_eq_true rfl) (fun p e s m below meth c D ks ls hr cx wd hl => by
    have hl : lv_has ls 8 [(0, .ref o0), (1, .int x1)] := hl
    exact w_X12_table_e cx hr o0 x1 h _ _ ls wd hl hX)
def f_X12_greatest_e (o0 : Nat) (h : mh_H) : Option (Int32 × mh_H) :=
  (mh_gR h o0 12 6).bind fun a1 =>
  (mh_gI h o0 12 7).bind fun v2 =>
  (mh_aI h a1 0 (v2 - (1 : Int32))).bind fun v3 =>
  some (v3, h)
set_option maxRecDepth 100000 in
set_option maxHeartbeats 4000000 in
theorem w_X12_greatest_e {p : Program} {l : Launch} {e : Env} {s : State} {m : MethodId} {args : Array Value} {below : List Frame} {meth : Method} {c : Code} {D : va_G} {ks : Nat → ClassId} {L : List Nat} {r : Int32} {h' : mh_H} (cx : mh_C p m c cX12_greatest 1 s args RX12 meth D ks (mh_A L s.heap.size)) (hr : meth.sig.returnType = (some .int)) :
    ∀ (o0 : Nat) (h : mh_H) (H : Heap) (locs : List Loc) (ls : Array Slot), mh_W D ks L (mh_A L s.heap.size) s.heap h H locs → lv_has ls 1 [(0, .ref o0)] → f_X12_greatest_e o0 h = some (r, h') → W p l e (mh_rm 0) s m args below meth c H locs 0 0 (MQ below (mh_Qi D ks L s.heap.size r h') args s 0 0 (mh_A L s.heap.size)) (F0 m 0 ls []) := by
  intro o0 h H locs ls wd hl hX
  have hx := cx.1.1
  have hb := cx.1.2.1
  unfold f_X12_greatest_e at hX
  refine lv_aload_n hx hb dX12_greatest_0 rfl (lv_at hl 0 rfl) ?_
  refine mh_getR cx wd fl_X12_18 dX12_greatest_1 hX (fun a1 hX => ?_)
  refine lv_aload_n hx hb dX12_greatest_4 rfl (lv_at hl 0 rfl) ?_
  refine mh_getI cx wd fl_X12_21 dX12_greatest_5 hX (fun v2 hX => ?_)
  refine lv_iconst (v := 1) hx hb dX12_greatest_8 (by decide) ?_
  refine lv_isub hx hb dX12_greatest_9 ?_
  refine mh_iald cx wd dX12_greatest_10 hX (fun v3 hX => ?_)
  exact mh_iret cx wd hr hX dX12_greatest_11
set_option maxRecDepth 100000 in
theorem c_X12_greatest {l : Launch} {L : List Nat} {h h' : mh_H} {r : Int32} {o0 : Nat} (hX : f_X12_greatest_e o0 h = some (r, h')) : mh_MI l yX12_greatest (Cond.code yX12_greatest cX12_greatest 1 (some .int) :: mh_TB) (mh_rm 0) [.ref o0] L h r h' :=
  mh_of (mc := 0) (ms := 0) (Qc := fun D ks sz => mh_Qi D ks L sz r h') (plainFor_of_name (by decide)) (Nat.le_of_ble_eq_true rfl) (fun p e s m below meth c D ks ls hr cx wd hl => by
    have hl : lv_has ls 1 [(0, .ref o0)] := hl
    exact w_X12_greatest_e cx hr o0 h _ _ ls wd hl hX)
def f_X12_down_e (o0 : Nat) (y1 : Int64) (h : mh_H) : Option (Int32 × mh_H) :=
  if 0 < (lg_cmp y1 (100300 : Int64)) then (
  mh_b2 (mh_cal h o0 12 (f_X12_greatest_e o0 h)) fun v2 h1 =>
  mh_nm ((v2).toInt64) fun w3 =>
  mh_nz (w3 = 0) <|
  some ((((((100300 : Int64) - w3) + (1 : Int64)) + (mh_lrem (y1 - (((100300 : Int64) - w3) + (1 : Int64))) w3))).toInt32, h1)) else
  some ((y1).toInt32, h)
set_option maxRecDepth 100000 in
set_option maxHeartbeats 4000000 in
theorem w_X12_down_e {p : Program} {l : Launch} {e : Env} {s : State} {m : MethodId} {args : Array Value} {below : List Frame} {meth : Method} {c : Code} {D : va_G} {ks : Nat → ClassId} {L : List Nat} {r : Int32} {h' : mh_H} (cx : mh_C p m c cX12_down 5 s args RX12 meth D ks (mh_A L s.heap.size)) (hr : meth.sig.returnType = (some .int)) :
    ∀ (o0 : Nat) (y1 : Int64) (h : mh_H) (H : Heap) (locs : List Loc) (ls : Array Slot), mh_W D ks L (mh_A L s.heap.size) s.heap h H locs → lv_has ls 5 [(0, .ref o0), (1, .long y1)] → f_X12_down_e o0 y1 h = some (r, h') → W p l e (mh_rm 1) s m args below meth c H locs 0 0 (MQ below (mh_Qi D ks L s.heap.size r h') args s 0 0 (mh_A L s.heap.size)) (F0 m 0 ls []) := by
  intro o0 y1 h H locs ls wd hl hX
  have hx := cx.1.1
  have hb := cx.1.2.1
  unfold f_X12_down_e at hX
  refine lv_lload_n hx hb dX12_down_0 rfl (lv_at hl 1 rfl) ?_
  refine mh_ldc2 cx kl_X12_127 dX12_down_1 ?_
  refine W.lcmp hx hb dX12_down_4 ?_
  refine lv_if_gt (tgt := 11) hx hb dX12_down_5 rfl (fun hc => (fun hX => ?_) ((mh_if hX).1 hc)) (fun hc => (fun hX => ?_) ((mh_if hX).2 hc))
  · refine lv_aload_n hx hb dX12_down_11 rfl (lv_at hl 0 rfl) ?_
    refine mh_callVI cx wd [] (rfl : vwCl[12]? = some (RX12, TX12, 38)) yw_X12_greatest vw_X12_129 rfl hl.1 rfl (Nat.le_of_ble_eq_true rfl) dX12_down_12 ⟨Nat.le_of_ble_eq_true rfl, Nat.le_of_ble_eq_true rfl⟩ ⟨Nat.le_refl _, Nat.le_refl _⟩ (fun _ _ q => c_X12_greatest q) hX (fun v2 h1 H locs wd hX => ?_)
    refine lv_i2l hx hb dX12_down_15 rfl ?_
    refine mh_topl hX (fun w3 hX => ?_)
    refine lv_lstore_n (lv' := [(3, .long w3), (0, .ref o0), (1, .long y1)]) hx hb dX12_down_16 rfl hl (Nat.le_of_ble_eq_true rfl) rfl (fun ls hl => ?_)
    refine mh_ldc2 cx kl_X12_127 dX12_down_17 ?_
    refine lv_lload_n hx hb dX12_down_20 rfl (lv_at hl 0 rfl) ?_
    refine lv_lsub hx hb dX12_down_21 ?_
    refine lv_lconst (v := 1) hx hb dX12_down_22 (by decide) ?_
    refine lv_ladd hx hb dX12_down_23 ?_
    refine lv_lload_n hx hb dX12_down_24 rfl (lv_at hl 2 rfl) ?_
    refine mh_ldc2 cx kl_X12_127 dX12_down_25 ?_
    refine lv_lload_n hx hb dX12_down_28 rfl (lv_at hl 0 rfl) ?_
    refine lv_lsub hx hb dX12_down_29 ?_
    refine lv_lconst (v := 1) hx hb dX12_down_30 (by decide) ?_
    refine lv_ladd hx hb dX12_down_31 ?_
    refine lv_lsub hx hb dX12_down_32 ?_
    refine lv_lload_n hx hb dX12_down_33 rfl (lv_at hl 0 rfl) ?_
    obtain ⟨hz, hX⟩ := mh_nzk hX
    refine lv_lrem hx hb dX12_down_34 hz ?_
    refine lv_ladd hx hb dX12_down_35 ?_
    refine lv_l2i hx hb dX12_down_36 rfl ?_
    exact mh_iret cx wd hr hX dX12_down_37
  · refine lv_lload_n hx hb dX12_down_8 rfl (lv_at hl 1 rfl) ?_
    refine lv_l2i hx hb dX12_down_9 rfl ?_
    exact mh_iret cx wd hr hX dX12_down_10
set_option maxRecDepth 100000 in
theorem c_X12_down {l : Launch} {L : List Nat} {h h' : mh_H} {r : Int32} {o0 : Nat} {y1 : Int64} (hX : f_X12_down_e o0 y1 h = some (r, h')) : mh_MI l yX12_down (Cond.code yX12_down cX12_down 5 (some .int) :: mh_TB) (mh_rm 1) [.ref o0, .long y1] L h r h' :=
  mh_of (mc := 0) (ms := 0) (Qc := fun D ks sz => mh_Qi D ks L sz r h') (plainFor_of_name (by decide)) (Nat.le_of_ble_eq_true rfl) (fun p e s m below meth c D ks ls hr cx wd hl => by
    have hl : lv_has ls 5 [(0, .ref o0), (1, .long y1)] := hl
    exact w_X12_down_e cx hr o0 y1 h _ _ ls wd hl hX)
def f_X12_isSum_b19 (t0 : Int32) (h : mh_H) : Option (Int32 × mh_H) :=
  mh_rz t0 h
def f_X12_isSum_b18 (k19 : Int32 → mh_H → Option (Int32 × mh_H)) (h : mh_H) : Option (Int32 × mh_H) :=
  k19 (0 : Int32) h
def f_X12_isSum_e (y0 : Int64) (h : mh_H) : Option (Int32 × mh_H) :=
  if (lg_cmp y0 (0 : Int64)) < 0 then (
  f_X12_isSum_b18 (f_X12_isSum_b19) h) else
  if 0 < (lg_cmp y0 (1000000000000000 : Int64)) then (
  f_X12_isSum_b18 (f_X12_isSum_b19) h) else
  f_X12_isSum_b19 (1 : Int32) h
set_option maxRecDepth 100000 in
set_option maxHeartbeats 4000000 in
theorem w_X12_isSum_b19 {p : Program} {l : Launch} {e : Env} {s : State} {m : MethodId} {args : Array Value} {below : List Frame} {meth : Method} {c : Code} {D : va_G} {ks : Nat → ClassId} {L : List Nat} {r : Int32} {h' : mh_H} (cx : mh_C p m c cX12_isSum 2 s args RX12 meth D ks (mh_A L s.heap.size)) (hr : meth.sig.returnType = (some .boolean)) :
    ∀ (t0 : Int32) (h : mh_H) (H : Heap) (locs : List Loc) (ls : Array Slot), mh_W D ks L (mh_A L s.heap.size) s.heap h H locs → lv_has ls 2 [] → f_X12_isSum_b19 t0 h = some (r, h') → W p l e (mh_rm 0) s m args below meth c H locs 0 0 (MQ below (mh_Qi D ks L s.heap.size r h') args s 0 0 (mh_A L s.heap.size)) (F0 m 19 ls [.int t0]) := by
  intro t0 h H locs ls wd hl hX
  have hx := cx.1.1
  have hb := cx.1.2.1
  unfold f_X12_isSum_b19 at hX
  exact mh_zret cx wd hr hX dX12_isSum_19
set_option maxRecDepth 100000 in
set_option maxHeartbeats 4000000 in
theorem w_X12_isSum_b18 {p : Program} {l : Launch} {e : Env} {s : State} {m : MethodId} {args : Array Value} {below : List Frame} {meth : Method} {c : Code} {D : va_G} {ks : Nat → ClassId} {L : List Nat} {r : Int32} {h' : mh_H} (k19 : Int32 → mh_H → Option (Int32 × mh_H)) (cx : mh_C p m c cX12_isSum 2 s args RX12 meth D ks (mh_A L s.heap.size)) (hr : meth.sig.returnType = (some .boolean))
    (hk19 : ∀ (t0 : Int32) (h : mh_H) (H : Heap) (locs : List Loc) (ls : Array Slot), mh_W D ks L (mh_A L s.heap.size) s.heap h H locs → lv_has ls 2 [] → k19 t0 h = some (r, h') → W p l e (mh_rm 0) s m args below meth c H locs 0 0 (MQ below (mh_Qi D ks L s.heap.size r h') args s 0 0 (mh_A L s.heap.size)) (F0 m 19 ls [.int t0])) :
    ∀ (h : mh_H) (H : Heap) (locs : List Loc) (ls : Array Slot), mh_W D ks L (mh_A L s.heap.size) s.heap h H locs → lv_has ls 2 [] → f_X12_isSum_b18 k19  h = some (r, h') → W p l e (mh_rm 0) s m args below meth c H locs 0 0 (MQ below (mh_Qi D ks L s.heap.size r h') args s 0 0 (mh_A L s.heap.size)) (F0 m 18 ls []) := by
  intro  h H locs ls wd hl hX
  have hx := cx.1.1
  have hb := cx.1.2.1
  unfold f_X12_isSum_b18 at hX
  refine lv_iconst (v := 0) hx hb dX12_isSum_18 (by decide) ?_
  exact hk19 _ h _ _ ls wd (lv_sub hl [] rfl) hX
set_option maxRecDepth 100000 in
set_option maxHeartbeats 4000000 in
theorem w_X12_isSum_e {p : Program} {l : Launch} {e : Env} {s : State} {m : MethodId} {args : Array Value} {below : List Frame} {meth : Method} {c : Code} {D : va_G} {ks : Nat → ClassId} {L : List Nat} {r : Int32} {h' : mh_H} (cx : mh_C p m c cX12_isSum 2 s args RX12 meth D ks (mh_A L s.heap.size)) (hr : meth.sig.returnType = (some .boolean)) :
    ∀ (y0 : Int64) (h : mh_H) (H : Heap) (locs : List Loc) (ls : Array Slot), mh_W D ks L (mh_A L s.heap.size) s.heap h H locs → lv_has ls 2 [(0, .long y0)] → f_X12_isSum_e y0 h = some (r, h') → W p l e (mh_rm 0) s m args below meth c H locs 0 0 (MQ below (mh_Qi D ks L s.heap.size r h') args s 0 0 (mh_A L s.heap.size)) (F0 m 0 ls []) := by
  intro y0 h H locs ls wd hl hX
  have hx := cx.1.1
  have hb := cx.1.2.1
  unfold f_X12_isSum_e at hX
  refine lv_lload_n hx hb dX12_isSum_0 rfl (lv_at hl 0 rfl) ?_
  refine lv_lconst (v := 0) hx hb dX12_isSum_1 (by decide) ?_
  refine W.lcmp hx hb dX12_isSum_2 ?_
  refine lv_if_lt (tgt := 18) hx hb dX12_isSum_3 rfl (fun hc => (fun hX => ?_) ((mh_if hX).1 hc)) (fun hc => (fun hX => ?_) ((mh_if hX).2 hc))
  · exact w_X12_isSum_b18 (f_X12_isSum_b19) cx hr (w_X12_isSum_b19 cx hr)  h _ _ ls wd (lv_sub hl [] rfl) hX
  · refine lv_lload_n hx hb dX12_isSum_6 rfl (lv_at hl 0 rfl) ?_
    refine mh_ldc2 cx kl_X12_133 dX12_isSum_7 ?_
    refine W.lcmp hx hb dX12_isSum_10 ?_
    refine lv_if_gt (tgt := 18) hx hb dX12_isSum_11 rfl (fun hc => (fun hX => ?_) ((mh_if hX).1 hc)) (fun hc => (fun hX => ?_) ((mh_if hX).2 hc))
    · exact w_X12_isSum_b18 (f_X12_isSum_b19) cx hr (w_X12_isSum_b19 cx hr)  h _ _ ls wd (lv_sub hl [] rfl) hX
    · refine lv_iconst (v := 1) hx hb dX12_isSum_14 (by decide) ?_
      refine lv_goto (tgt := 19) hx hb dX12_isSum_15 rfl ?_
      exact w_X12_isSum_b19 cx hr _ h _ _ ls wd (lv_sub hl [] rfl) hX
set_option maxRecDepth 100000 in
theorem c_X12_isSum {l : Launch} {L : List Nat} {h h' : mh_H} {r : Int32} {y0 : Int64} (hX : f_X12_isSum_e y0 h = some (r, h')) : mh_MI l yX12_isSum (Cond.code yX12_isSum cX12_isSum 2 (some .boolean) :: mh_TB) (mh_rm 0) [.long y0] L h r h' :=
  mh_of (mc := 0) (ms := 0) (Qc := fun D ks sz => mh_Qi D ks L sz r h') (plainFor_of_name (by decide)) (Nat.le_of_ble_eq_true rfl) (fun p e s m below meth c D ks ls hr cx wd hl => by
    have hl : lv_has ls 2 [(0, .long y0)] := hl
    exact w_X12_isSum_e cx hr y0 h _ _ ls wd hl hX)
def f_X12_fewestOf_b20 (t0 : Int64) (h : mh_H) : Option (Int64 × mh_H) :=
  some (t0, h)
def f_X12_fewestOf_b67 (t0 : Int64) (h : mh_H) : Option (Int64 × mh_H) :=
  some (t0, h)
def f_X12_fewestOf_e (o0 : Nat) (y1 : Int64) (h : mh_H) : Option (Int64 × mh_H) :=
  (mh_gI h o0 12 7).bind fun v1 =>
  if v1 = 0 then (
  if (lg_cmp y1 (0 : Int64)) = 0 then (
  f_X12_fewestOf_b20 (0 : Int64) h) else
  f_X12_fewestOf_b20 (-1 : Int64) h) else
  mh_b2 (mh_cal h o0 12 (f_X12_down_e o0 y1 h)) fun v3 h2 =>
  (mh_gR h2 o0 12 8).bind fun a4 =>
  (mh_gI h2 o0 12 7).bind fun v5 =>
  (mh_aR h2 a4 5 v5).bind fun a6 =>
  (mh_aI h2 a6 0 v3).bind fun v7 =>
  if v7 < (536870912 : Int32) then (
  mh_b2 (mh_cal h2 o0 12 (f_X12_greatest_e o0 h2)) fun v9 h8 =>
  mh_nz ((v9).toInt64 = 0) <|
  f_X12_fewestOf_b67 ((v7).toInt64 + ((y1 - (v3).toInt64) / (v9).toInt64)) h8) else
  f_X12_fewestOf_b67 (-1 : Int64) h2
set_option maxRecDepth 100000 in
set_option maxHeartbeats 4000000 in
theorem w_X12_fewestOf_b20 {p : Program} {l : Launch} {e : Env} {s : State} {m : MethodId} {args : Array Value} {below : List Frame} {meth : Method} {c : Code} {D : va_G} {ks : Nat → ClassId} {L : List Nat} {r : Int64} {h' : mh_H} (cx : mh_C p m c cX12_fewestOf 5 s args RX12 meth D ks (mh_A L s.heap.size)) (hr : meth.sig.returnType = (some .long)) :
    ∀ (t0 : Int64) (h : mh_H) (H : Heap) (locs : List Loc) (ls : Array Slot), mh_W D ks L (mh_A L s.heap.size) s.heap h H locs → lv_has ls 5 [] → f_X12_fewestOf_b20 t0 h = some (r, h') → W p l e (mh_rm 2) s m args below meth c H locs 0 0 (MQ below (mh_Ql D ks L s.heap.size r h') args s 0 0 (mh_A L s.heap.size)) (F0 m 20 ls [.long t0]) := by
  intro t0 h H locs ls wd hl hX
  have hx := cx.1.1
  have hb := cx.1.2.1
  unfold f_X12_fewestOf_b20 at hX
  exact mh_lret cx wd hr hX dX12_fewestOf_20
set_option maxRecDepth 100000 in
set_option maxHeartbeats 4000000 in
theorem w_X12_fewestOf_b67 {p : Program} {l : Launch} {e : Env} {s : State} {m : MethodId} {args : Array Value} {below : List Frame} {meth : Method} {c : Code} {D : va_G} {ks : Nat → ClassId} {L : List Nat} {r : Int64} {h' : mh_H} (cx : mh_C p m c cX12_fewestOf 5 s args RX12 meth D ks (mh_A L s.heap.size)) (hr : meth.sig.returnType = (some .long)) :
    ∀ (t0 : Int64) (h : mh_H) (H : Heap) (locs : List Loc) (ls : Array Slot), mh_W D ks L (mh_A L s.heap.size) s.heap h H locs → lv_has ls 5 [] → f_X12_fewestOf_b67 t0 h = some (r, h') → W p l e (mh_rm 2) s m args below meth c H locs 0 0 (MQ below (mh_Ql D ks L s.heap.size r h') args s 0 0 (mh_A L s.heap.size)) (F0 m 67 ls [.long t0]) := by
  intro t0 h H locs ls wd hl hX
  have hx := cx.1.1
  have hb := cx.1.2.1
  unfold f_X12_fewestOf_b67 at hX
  exact mh_lret cx wd hr hX dX12_fewestOf_67
set_option maxRecDepth 100000 in
set_option maxHeartbeats 4000000 in
theorem w_X12_fewestOf_e {p : Program} {l : Launch} {e : Env} {s : State} {m : MethodId} {args : Array Value} {below : List Frame} {meth : Method} {c : Code} {D : va_G} {ks : Nat → ClassId} {L : List Nat} {r : Int64} {h' : mh_H} (cx : mh_C p m c cX12_fewestOf 5 s args RX12 meth D ks (mh_A L s.heap.size)) (hr : meth.sig.returnType = (some .long)) :
    ∀ (o0 : Nat) (y1 : Int64) (h : mh_H) (H : Heap) (locs : List Loc) (ls : Array Slot), mh_W D ks L (mh_A L s.heap.size) s.heap h H locs → lv_has ls 5 [(0, .ref o0), (1, .long y1)] → f_X12_fewestOf_e o0 y1 h = some (r, h') → W p l e (mh_rm 2) s m args below meth c H locs 0 0 (MQ below (mh_Ql D ks L s.heap.size r h') args s 0 0 (mh_A L s.heap.size)) (F0 m 0 ls []) := by
  intro o0 y1 h H locs ls wd hl hX
  have hx := cx.1.1
  have hb := cx.1.2.1
  unfold f_X12_fewestOf_e at hX
  refine lv_aload_n hx hb dX12_fewestOf_0 rfl (lv_at hl 0 rfl) ?_
  refine mh_getI cx wd fl_X12_21 dX12_fewestOf_1 hX (fun v1 hX => ?_)
  refine lv_if_ne (tgt := 21) hx hb dX12_fewestOf_4 rfl (fun hc => (fun hX => ?_) ((mh_if hX).2 hc)) (fun hc => (fun hX => ?_) ((mh_if hX).1 hc))
  · refine lv_aload_n hx hb dX12_fewestOf_21 rfl (lv_at hl 0 rfl) ?_
    refine lv_lload_n hx hb dX12_fewestOf_22 rfl (lv_at hl 1 rfl) ?_
    refine mh_callVI cx wd [.long y1] (rfl : vwCl[12]? = some (RX12, TX12, 38)) yw_X12_down vw_X12_137 rfl hl.1 rfl (Nat.le_of_ble_eq_true rfl) dX12_fewestOf_23 ⟨Nat.le_of_ble_eq_true rfl, Nat.le_of_ble_eq_true rfl⟩ ⟨Nat.le_refl _, Nat.le_refl _⟩ (fun _ _ q => c_X12_down q) hX (fun v3 h2 H locs wd hX => ?_)
    refine lv_istore_n (lv' := [(3, .int v3), (0, .ref o0), (1, .long y1)]) hx hb dX12_fewestOf_26 rfl hl (Nat.le_of_ble_eq_true rfl) rfl (fun ls hl => ?_)
    refine lv_aload_n hx hb dX12_fewestOf_27 rfl (lv_at hl 1 rfl) ?_
    refine mh_getR cx wd fl_X12_26 dX12_fewestOf_28 hX (fun a4 hX => ?_)
    refine lv_aload_n hx hb dX12_fewestOf_31 rfl (lv_at hl 1 rfl) ?_
    refine mh_getI cx wd fl_X12_21 dX12_fewestOf_32 hX (fun v5 hX => ?_)
    refine mh_aald cx wd 5 rfl rfl dX12_fewestOf_35 hX (fun a6 hX => ?_)
    refine lv_iload_n hx hb dX12_fewestOf_36 rfl (lv_at hl 0 rfl) ?_
    refine mh_iald cx wd dX12_fewestOf_37 hX (fun v7 hX => ?_)
    refine lv_istore (lv' := [(4, .int v7), (3, .int v3), (0, .ref o0), (1, .long y1)]) hx hb dX12_fewestOf_38 hl (Nat.le_of_ble_eq_true rfl) rfl (fun ls hl => ?_)
    refine lv_iload hx hb dX12_fewestOf_40 (lv_at hl 0 rfl) ?_
    refine mh_ldc cx kc_X12_126 dX12_fewestOf_42 ?_
    refine lv_icmp_lt (tgt := 53) hx hb dX12_fewestOf_44 rfl (fun hc => (fun hX => ?_) ((mh_if hX).1 hc)) (fun hc => (fun hX => ?_) ((mh_if hX).2 hc))
    · refine lv_iload hx hb dX12_fewestOf_53 (lv_at hl 0 rfl) ?_
      refine lv_i2l hx hb dX12_fewestOf_55 rfl ?_
      refine lv_lload_n hx hb dX12_fewestOf_56 rfl (lv_at hl 3 rfl) ?_
      refine lv_iload_n hx hb dX12_fewestOf_57 rfl (lv_at hl 1 rfl) ?_
      refine lv_i2l hx hb dX12_fewestOf_58 rfl ?_
      refine lv_lsub hx hb dX12_fewestOf_59 ?_
      refine lv_aload_n hx hb dX12_fewestOf_60 rfl (lv_at hl 2 rfl) ?_
      refine mh_callVI cx wd [] (rfl : vwCl[12]? = some (RX12, TX12, 38)) yw_X12_greatest vw_X12_129 rfl hl.1 rfl (Nat.le_of_ble_eq_true rfl) dX12_fewestOf_61 ⟨Nat.le_of_ble_eq_true rfl, Nat.le_of_ble_eq_true rfl⟩ ⟨Nat.le_refl _, Nat.le_refl _⟩ (fun _ _ q => c_X12_greatest q) hX (fun v9 h8 H locs wd hX => ?_)
      refine lv_i2l hx hb dX12_fewestOf_64 rfl ?_
      obtain ⟨hz, hX⟩ := mh_nzk hX
      refine lv_ldiv hx hb dX12_fewestOf_65 hz ?_
      refine lv_ladd hx hb dX12_fewestOf_66 ?_
      exact w_X12_fewestOf_b67 cx hr _ h8 _ _ ls wd (lv_sub hl [] rfl) hX
    · refine mh_ldc2 cx kl_X12_135 dX12_fewestOf_47 ?_
      refine lv_goto (tgt := 67) hx hb dX12_fewestOf_50 rfl ?_
      exact w_X12_fewestOf_b67 cx hr _ h2 _ _ ls wd (lv_sub hl [] rfl) hX
  · refine lv_lload_n hx hb dX12_fewestOf_7 rfl (lv_at hl 1 rfl) ?_
    refine lv_lconst (v := 0) hx hb dX12_fewestOf_8 (by decide) ?_
    refine W.lcmp hx hb dX12_fewestOf_9 ?_
    refine lv_if_ne (tgt := 17) hx hb dX12_fewestOf_10 rfl (fun hc => (fun hX => ?_) ((mh_if hX).2 hc)) (fun hc => (fun hX => ?_) ((mh_if hX).1 hc))
    · refine mh_ldc2 cx kl_X12_135 dX12_fewestOf_17 ?_
      exact w_X12_fewestOf_b20 cx hr _ h _ _ ls wd (lv_sub hl [] rfl) hX
    · refine lv_lconst (v := 0) hx hb dX12_fewestOf_13 (by decide) ?_
      refine lv_goto (tgt := 20) hx hb dX12_fewestOf_14 rfl ?_
      exact w_X12_fewestOf_b20 cx hr _ h _ _ ls wd (lv_sub hl [] rfl) hX
set_option maxRecDepth 100000 in
theorem c_X12_fewestOf {l : Launch} {L : List Nat} {h h' : mh_H} {r : Int64} {o0 : Nat} {y1 : Int64} (hX : f_X12_fewestOf_e o0 y1 h = some (r, h')) : mh_MJ l yX12_fewestOf (Cond.code yX12_fewestOf cX12_fewestOf 5 (some .long) :: mh_TB) (mh_rm 2) [.ref o0, .long y1] L h r h' :=
  mh_of (mc := 0) (ms := 0) (Qc := fun D ks sz => mh_Ql D ks L sz r h') (plainFor_of_name (by decide)) (Nat.le_of_ble_eq_true rfl) (fun p e s m below meth c D ks ls hr cx wd hl => by
    have hl : lv_has ls 5 [(0, .ref o0), (1, .long y1)] := hl
    exact w_X12_fewestOf_e cx hr o0 y1 h _ _ ls wd hl hX)
def f_X12_fewest_e (o0 : Nat) (x1 : Int32) (y2 : Int64) (h : mh_H) : Option (Int64 × mh_H) :=
  (mh_pI h o0 12 0 (0 : Int32)).bind fun h1 =>
  mh_b2 (f_X12_isMint_e x1 h1) fun v3 h2 =>
  if v3 = 0 then (
  mh_b2 (mh_cal h2 o0 12 (f_X12_fail_e o0 (1 : Int32) h2)) fun v12 h11 =>
  some ((v12).toInt64, h11)) else
  mh_b2 (f_X12_isSum_e y2 h2) fun v5 h4 =>
  if v5 = 0 then (
  mh_b2 (mh_cal h4 o0 12 (f_X12_fail_e o0 (2 : Int32) h4)) fun v10 h9 =>
  some ((v10).toInt64, h9)) else
  (mh_cal h4 o0 12 (f_X12_table_e o0 x1 h4)).bind fun h6 =>
  mh_b2 (mh_cal h6 o0 12 (f_X12_fewestOf_e o0 y2 h6)) fun w8 h7 =>
  some (w8, h7)
set_option maxRecDepth 100000 in
set_option maxHeartbeats 4000000 in
theorem w_X12_fewest_e {p : Program} {l : Launch} {e : Env} {s : State} {m : MethodId} {args : Array Value} {below : List Frame} {meth : Method} {c : Code} {D : va_G} {ks : Nat → ClassId} {L : List Nat} {r : Int64} {h' : mh_H} (cx : mh_C p m c cX12_fewest 4 s args RX12 meth D ks (mh_A L s.heap.size)) (hr : meth.sig.returnType = (some .long)) :
    ∀ (o0 : Nat) (x1 : Int32) (y2 : Int64) (h : mh_H) (H : Heap) (locs : List Loc) (ls : Array Slot), mh_W D ks L (mh_A L s.heap.size) s.heap h H locs → lv_has ls 4 [(0, .ref o0), (1, .int x1), (2, .long y2)] → f_X12_fewest_e o0 x1 y2 h = some (r, h') → W p l e (mh_rm 3) s m args below meth c H locs 0 0 (MQ below (mh_Ql D ks L s.heap.size r h') args s 0 0 (mh_A L s.heap.size)) (F0 m 0 ls []) := by
  intro o0 x1 y2 h H locs ls wd hl hX
  have hx := cx.1.1
  have hb := cx.1.2.1
  unfold f_X12_fewest_e at hX
  refine lv_aload_n hx hb dX12_fewest_0 rfl (lv_at hl 0 rfl) ?_
  refine lv_iconst (v := 0) hx hb dX12_fewest_1 (by decide) ?_
  refine mh_putI cx wd fp_X12_96 dX12_fewest_2 hX (fun h1 H locs wd hX => ?_)
  refine lv_iload_n hx hb dX12_fewest_5 rfl (lv_at hl 1 rfl) ?_
  refine mh_callSI cx wd [.int x1] yw_X12_isMint sw_X12_111 rfl hl.1 rfl (Nat.le_of_ble_eq_true rfl) dX12_fewest_6 ⟨Nat.le_of_ble_eq_true rfl, Nat.le_of_ble_eq_true rfl⟩ ⟨Nat.le_refl _, Nat.le_refl _⟩ (fun _ _ q => c_X12_isMint q) hX (fun v3 h2 H locs wd hX => ?_)
  refine lv_if_ne (tgt := 19) hx hb dX12_fewest_9 rfl (fun hc => (fun hX => ?_) ((mh_if hX).2 hc)) (fun hc => (fun hX => ?_) ((mh_if hX).1 hc))
  · refine lv_lload_n hx hb dX12_fewest_19 rfl (lv_at hl 2 rfl) ?_
    refine mh_callSI cx wd [.long y2] yw_X12_isSum sw_X12_141 rfl hl.1 rfl (Nat.le_of_ble_eq_true rfl) dX12_fewest_20 ⟨Nat.le_of_ble_eq_true rfl, Nat.le_of_ble_eq_true rfl⟩ ⟨Nat.le_refl _, Nat.le_refl _⟩ (fun _ _ q => c_X12_isSum q) hX (fun v5 h4 H locs wd hX => ?_)
    refine lv_if_ne (tgt := 33) hx hb dX12_fewest_23 rfl (fun hc => (fun hX => ?_) ((mh_if hX).2 hc)) (fun hc => (fun hX => ?_) ((mh_if hX).1 hc))
    · refine lv_aload_n hx hb dX12_fewest_33 rfl (lv_at hl 0 rfl) ?_
      refine lv_iload_n hx hb dX12_fewest_34 rfl (lv_at hl 1 rfl) ?_
      refine mh_callVV cx wd [.int x1] (rfl : vwCl[12]? = some (RX12, TX12, 38)) yw_X12_table vw_X12_145 rfl hl.1 rfl (Nat.le_of_ble_eq_true rfl) dX12_fewest_35 ⟨Nat.le_of_ble_eq_true rfl, Nat.le_of_ble_eq_true rfl⟩ ⟨Nat.le_refl _, Nat.le_refl _⟩ (fun _ q => c_X12_table q) hX (fun h6 H locs wd hX => ?_)
      refine lv_aload_n hx hb dX12_fewest_38 rfl (lv_at hl 0 rfl) ?_
      refine lv_lload_n hx hb dX12_fewest_39 rfl (lv_at hl 2 rfl) ?_
      refine mh_callVJ cx wd [.long y2] (rfl : vwCl[12]? = some (RX12, TX12, 38)) yw_X12_fewestOf vw_X12_149 rfl hl.1 rfl (Nat.le_of_ble_eq_true rfl) dX12_fewest_40 ⟨Nat.le_of_ble_eq_true rfl, Nat.le_of_ble_eq_true rfl⟩ ⟨Nat.le_refl _, Nat.le_refl _⟩ (fun _ _ q => c_X12_fewestOf q) hX (fun w8 h7 H locs wd hX => ?_)
      exact mh_lret cx wd hr hX dX12_fewest_43
    · refine lv_aload_n hx hb dX12_fewest_26 rfl (lv_at hl 0 rfl) ?_
      refine lv_iconst (v := 2) hx hb dX12_fewest_27 (by decide) ?_
      refine mh_callVI cx wd [.int (2 : Int32)] (rfl : vwCl[12]? = some (RX12, TX12, 38)) yw_X12_fail vw_X12_122 rfl hl.1 rfl (Nat.le_of_ble_eq_true rfl) dX12_fewest_28 ⟨Nat.le_of_ble_eq_true rfl, Nat.le_of_ble_eq_true rfl⟩ ⟨Nat.le_refl _, Nat.le_refl _⟩ (fun _ _ q => c_X12_fail q) hX (fun v10 h9 H locs wd hX => ?_)
      refine lv_i2l hx hb dX12_fewest_31 rfl ?_
      exact mh_lret cx wd hr hX dX12_fewest_32
  · refine lv_aload_n hx hb dX12_fewest_12 rfl (lv_at hl 0 rfl) ?_
    refine lv_iconst (v := 1) hx hb dX12_fewest_13 (by decide) ?_
    refine mh_callVI cx wd [.int (1 : Int32)] (rfl : vwCl[12]? = some (RX12, TX12, 38)) yw_X12_fail vw_X12_122 rfl hl.1 rfl (Nat.le_of_ble_eq_true rfl) dX12_fewest_14 ⟨Nat.le_of_ble_eq_true rfl, Nat.le_of_ble_eq_true rfl⟩ ⟨Nat.le_refl _, Nat.le_refl _⟩ (fun _ _ q => c_X12_fail q) hX (fun v12 h11 H locs wd hX => ?_)
    refine lv_i2l hx hb dX12_fewest_17 rfl ?_
    exact mh_lret cx wd hr hX dX12_fewest_18
set_option maxRecDepth 100000 in
theorem c_X12_fewest {l : Launch} {L : List Nat} {h h' : mh_H} {r : Int64} {o0 : Nat} {x1 : Int32} {y2 : Int64} (hX : f_X12_fewest_e o0 x1 y2 h = some (r, h')) : mh_MJ l yX12_fewest (Cond.code yX12_fewest cX12_fewest 4 (some .long) :: mh_TB) (mh_rm 3) [.ref o0, .int x1, .long y2] L h r h' :=
  mh_of (mc := 0) (ms := 0) (Qc := fun D ks sz => mh_Ql D ks L sz r h') (plainFor_of_name (by decide)) (Nat.le_of_ble_eq_true rfl) (fun p e s m below meth c D ks ls hr cx wd hl => by
    have hl : lv_has ls 4 [(0, .ref o0), (1, .int x1), (2, .long y2)] := hl
    exact w_X12_fewest_e cx hr o0 x1 y2 h _ _ ls wd hl hX)
def f_X12_most_b54 (k28 : Nat → Int32 → Int32 → Int32 → Int32 → Int32 → Int32 → mh_H → Option (Int32 × mh_H)) (o0 : Nat) (x1 : Int32) (x3 : Int32) (x4 : Int32) (x5 : Int32) (x6 : Int32) (x7 : Int32) (h : mh_H) : Option (Int32 × mh_H) :=
  mh_nm (x4 - x5) fun v1 =>
  mh_nm (x3 + Int32.ofInt (1)) fun v2 =>
  k28 o0 x1 v2 v1 x5 x6 x7 h
def f_X12_most_b67 (x7 : Int32) (h : mh_H) : Option (Int32 × mh_H) :=
  some (x7, h)
def f_X12_most_b28 : Nat → Nat → Int32 → Int32 → Int32 → Int32 → Int32 → Int32 → mh_H → Option (Int32 × mh_H)
  | 0, _, _, _, _, _, _, _, _ => none
  | n + 1, o0, x1, x3, x4, x5, x6, x7, h =>
    if x4 < 0 then (
    f_X12_most_b67 x7 h) else
    (mh_gR h o0 12 8).bind fun a3 =>
    (mh_aR h a3 5 (x1 - (1 : Int32))).bind fun a4 =>
    (mh_aI h a4 0 x4).bind fun v5 =>
    if (v5 + x3) = x6 then (
    f_X12_most_b54 (f_X12_most_b28 n) o0 x1 x3 x4 x5 x6 x3 h) else
    f_X12_most_b54 (f_X12_most_b28 n) o0 x1 x3 x4 x5 x6 x7 h
def f_X12_most_e (o0 : Nat) (x1 : Int32) (x2 : Int32) (h : mh_H) : Option (Int32 × mh_H) :=
  mh_nm (0 : Int32) fun v6 =>
  (mh_gR h o0 12 6).bind fun a7 =>
  (mh_aI h a7 0 (x1 - (1 : Int32))).bind fun v8 =>
  (mh_gR h o0 12 8).bind fun a9 =>
  (mh_aR h a9 5 x1).bind fun a10 =>
  (mh_aI h a10 0 x2).bind fun v11 =>
  mh_nm (0 : Int32) fun v12 =>
  f_X12_most_b28 mh_fu o0 x1 v6 x2 v8 v11 v12 h
set_option maxRecDepth 100000 in
set_option maxHeartbeats 4000000 in
theorem w_X12_most_b54 {p : Program} {l : Launch} {e : Env} {s : State} {m : MethodId} {args : Array Value} {below : List Frame} {meth : Method} {c : Code} {D : va_G} {ks : Nat → ClassId} {L : List Nat} {r : Int32} {h' : mh_H} (k28 : Nat → Int32 → Int32 → Int32 → Int32 → Int32 → Int32 → mh_H → Option (Int32 × mh_H)) (cx : mh_C p m c cX12_most 8 s args RX12 meth D ks (mh_A L s.heap.size)) (hr : meth.sig.returnType = (some .int))
    (hk28 : ∀ (o0 : Nat) (x1 : Int32) (x3 : Int32) (x4 : Int32) (x5 : Int32) (x6 : Int32) (x7 : Int32) (h : mh_H) (H : Heap) (locs : List Loc) (ls : Array Slot), mh_W D ks L (mh_A L s.heap.size) s.heap h H locs → lv_has ls 8 [(0, .ref o0), (1, .int x1), (3, .int x3), (4, .int x4), (5, .int x5), (6, .int x6), (7, .int x7)] → k28 o0 x1 x3 x4 x5 x6 x7 h = some (r, h') → W p l e (mh_rm 0) s m args below meth c H locs 0 0 (MQ below (mh_Qi D ks L s.heap.size r h') args s 0 0 (mh_A L s.heap.size)) (F0 m 28 ls [])) :
    ∀ (o0 : Nat) (x1 : Int32) (x3 : Int32) (x4 : Int32) (x5 : Int32) (x6 : Int32) (x7 : Int32) (h : mh_H) (H : Heap) (locs : List Loc) (ls : Array Slot), mh_W D ks L (mh_A L s.heap.size) s.heap h H locs → lv_has ls 8 [(0, .ref o0), (1, .int x1), (3, .int x3), (4, .int x4), (5, .int x5), (6, .int x6), (7, .int x7)] → f_X12_most_b54 k28 o0 x1 x3 x4 x5 x6 x7 h = some (r, h') → W p l e (mh_rm 0) s m args below meth c H locs 0 0 (MQ below (mh_Qi D ks L s.heap.size r h') args s 0 0 (mh_A L s.heap.size)) (F0 m 54 ls []) := by
  intro o0 x1 x3 x4 x5 x6 x7 h H locs ls wd hl hX
  have hx := cx.1.1
  have hb := cx.1.2.1
  unfold f_X12_most_b54 at hX
  refine lv_iload hx hb dX12_most_54 (lv_at hl 3 rfl) ?_
  refine lv_iload hx hb dX12_most_56 (lv_at hl 4 rfl) ?_
  refine lv_isub hx hb dX12_most_58 ?_
  refine mh_topi hX (fun v1 hX => ?_)
  refine lv_istore (lv' := [(4, .int v1), (0, .ref o0), (1, .int x1), (3, .int x3), (5, .int x5), (6, .int x6), (7, .int x7)]) hx hb dX12_most_59 hl (Nat.le_of_ble_eq_true rfl) rfl (fun ls hl => ?_)
  obtain ⟨v2, ev2, hX⟩ := mh_nmx hX
  refine lv_iinc (k := 3) (v := v2) (lv' := [(3, .int v2), (4, .int v1), (0, .ref o0), (1, .int x1), (5, .int x5), (6, .int x6), (7, .int x7)]) hx hb dX12_most_61 hl rfl ev2 (Nat.le_of_ble_eq_true rfl) rfl (fun ls hl => ?_)
  refine lv_goto (tgt := 28) hx hb dX12_most_64 rfl ?_
  exact hk28 _ _ _ _ _ _ _ h _ _ ls wd (lv_sub hl [2, 3, 0, 1, 4, 5, 6] rfl) hX
set_option maxRecDepth 100000 in
set_option maxHeartbeats 4000000 in
theorem w_X12_most_b67 {p : Program} {l : Launch} {e : Env} {s : State} {m : MethodId} {args : Array Value} {below : List Frame} {meth : Method} {c : Code} {D : va_G} {ks : Nat → ClassId} {L : List Nat} {r : Int32} {h' : mh_H} (cx : mh_C p m c cX12_most 8 s args RX12 meth D ks (mh_A L s.heap.size)) (hr : meth.sig.returnType = (some .int)) :
    ∀ (x7 : Int32) (h : mh_H) (H : Heap) (locs : List Loc) (ls : Array Slot), mh_W D ks L (mh_A L s.heap.size) s.heap h H locs → lv_has ls 8 [(7, .int x7)] → f_X12_most_b67 x7 h = some (r, h') → W p l e (mh_rm 0) s m args below meth c H locs 0 0 (MQ below (mh_Qi D ks L s.heap.size r h') args s 0 0 (mh_A L s.heap.size)) (F0 m 67 ls []) := by
  intro x7 h H locs ls wd hl hX
  have hx := cx.1.1
  have hb := cx.1.2.1
  unfold f_X12_most_b67 at hX
  refine lv_iload hx hb dX12_most_67 (lv_at hl 0 rfl) ?_
  exact mh_iret cx wd hr hX dX12_most_69
set_option maxRecDepth 100000 in
set_option maxHeartbeats 4000000 in
theorem w_X12_most_b28 {p : Program} {l : Launch} {e : Env} {s : State} {m : MethodId} {args : Array Value} {below : List Frame} {meth : Method} {c : Code} {D : va_G} {ks : Nat → ClassId} {L : List Nat} {r : Int32} {h' : mh_H} (cx : mh_C p m c cX12_most 8 s args RX12 meth D ks (mh_A L s.heap.size)) (hr : meth.sig.returnType = (some .int)) :
    ∀ n : Nat, ∀ (o0 : Nat) (x1 : Int32) (x3 : Int32) (x4 : Int32) (x5 : Int32) (x6 : Int32) (x7 : Int32) (h : mh_H) (H : Heap) (locs : List Loc) (ls : Array Slot), mh_W D ks L (mh_A L s.heap.size) s.heap h H locs → lv_has ls 8 [(0, .ref o0), (1, .int x1), (3, .int x3), (4, .int x4), (5, .int x5), (6, .int x6), (7, .int x7)] → f_X12_most_b28 n o0 x1 x3 x4 x5 x6 x7 h = some (r, h') → W p l e (mh_rm 0) s m args below meth c H locs 0 0 (MQ below (mh_Qi D ks L s.heap.size r h') args s 0 0 (mh_A L s.heap.size)) (F0 m 28 ls []) := by
  intro n
  induction n with
  | zero =>
    intro o0 x1 x3 x4 x5 x6 x7 h H locs ls wd hl hX
    cases hX
  | succ n ih =>
    intro o0 x1 x3 x4 x5 x6 x7 h H locs ls wd hl hX
    have hx := cx.1.1
    have hb := cx.1.2.1
    rw [f_X12_most_b28] at hX
    refine lv_iload hx hb dX12_most_28 (lv_at hl 3 rfl) ?_
    refine lv_if_lt (tgt := 67) hx hb dX12_most_30 rfl (fun hc => (fun hX => ?_) ((mh_if hX).1 hc)) (fun hc => (fun hX => ?_) ((mh_if hX).2 hc))
    · exact w_X12_most_b67 cx hr _ h _ _ ls wd (lv_sub hl [6] rfl) hX
    · refine lv_aload_n hx hb dX12_most_33 rfl (lv_at hl 0 rfl) ?_
      refine mh_getR cx wd fl_X12_26 dX12_most_34 hX (fun a3 hX => ?_)
      refine lv_iload_n hx hb dX12_most_37 rfl (lv_at hl 1 rfl) ?_
      refine lv_iconst (v := 1) hx hb dX12_most_38 (by decide) ?_
      refine lv_isub hx hb dX12_most_39 ?_
      refine mh_aald cx wd 5 rfl rfl dX12_most_40 hX (fun a4 hX => ?_)
      refine lv_iload hx hb dX12_most_41 (lv_at hl 3 rfl) ?_
      refine mh_iald cx wd dX12_most_43 hX (fun v5 hX => ?_)
      refine lv_iload_n hx hb dX12_most_44 rfl (lv_at hl 2 rfl) ?_
      refine lv_iadd hx hb dX12_most_45 ?_
      refine lv_iload hx hb dX12_most_46 (lv_at hl 5 rfl) ?_
      refine lv_icmp_ne (tgt := 54) hx hb dX12_most_48 rfl (fun hc => (fun hX => ?_) ((mh_if hX).2 hc)) (fun hc => (fun hX => ?_) ((mh_if hX).1 hc))
      · exact w_X12_most_b54 (f_X12_most_b28 n) cx hr ih _ _ _ _ _ _ _ h _ _ ls wd (lv_sub hl [0, 1, 2, 3, 4, 5, 6] rfl) hX
      · refine lv_iload_n hx hb dX12_most_51 rfl (lv_at hl 2 rfl) ?_
        refine lv_istore (lv' := [(7, .int x3), (0, .ref o0), (1, .int x1), (3, .int x3), (4, .int x4), (5, .int x5), (6, .int x6)]) hx hb dX12_most_52 hl (Nat.le_of_ble_eq_true rfl) rfl (fun ls hl => ?_)
        exact w_X12_most_b54 (f_X12_most_b28 n) cx hr ih _ _ _ _ _ _ _ h _ _ ls wd (lv_sub hl [1, 2, 3, 4, 5, 6, 0] rfl) hX
set_option maxRecDepth 100000 in
set_option maxHeartbeats 4000000 in
theorem w_X12_most_e {p : Program} {l : Launch} {e : Env} {s : State} {m : MethodId} {args : Array Value} {below : List Frame} {meth : Method} {c : Code} {D : va_G} {ks : Nat → ClassId} {L : List Nat} {r : Int32} {h' : mh_H} (cx : mh_C p m c cX12_most 8 s args RX12 meth D ks (mh_A L s.heap.size)) (hr : meth.sig.returnType = (some .int)) :
    ∀ (o0 : Nat) (x1 : Int32) (x2 : Int32) (h : mh_H) (H : Heap) (locs : List Loc) (ls : Array Slot), mh_W D ks L (mh_A L s.heap.size) s.heap h H locs → lv_has ls 8 [(0, .ref o0), (1, .int x1), (2, .int x2)] → f_X12_most_e o0 x1 x2 h = some (r, h') → W p l e (mh_rm 0) s m args below meth c H locs 0 0 (MQ below (mh_Qi D ks L s.heap.size r h') args s 0 0 (mh_A L s.heap.size)) (F0 m 0 ls []) := by
  intro o0 x1 x2 h H locs ls wd hl hX
  have hx := cx.1.1
  have hb := cx.1.2.1
  unfold f_X12_most_e at hX
  refine lv_iconst (v := 0) hx hb dX12_most_0 (by decide) ?_
  refine mh_topi hX (fun v6 hX => ?_)
  refine lv_istore_n (lv' := [(3, .int v6), (0, .ref o0), (1, .int x1), (2, .int x2)]) hx hb dX12_most_1 rfl hl (Nat.le_of_ble_eq_true rfl) rfl (fun ls hl => ?_)
  refine lv_iload_n hx hb dX12_most_2 rfl (lv_at hl 3 rfl) ?_
  refine lv_istore (lv' := [(4, .int x2), (3, .int v6), (0, .ref o0), (1, .int x1), (2, .int x2)]) hx hb dX12_most_3 hl (Nat.le_of_ble_eq_true rfl) rfl (fun ls hl => ?_)
  refine lv_aload_n hx hb dX12_most_5 rfl (lv_at hl 2 rfl) ?_
  refine mh_getR cx wd fl_X12_18 dX12_most_6 hX (fun a7 hX => ?_)
  refine lv_iload_n hx hb dX12_most_9 rfl (lv_at hl 3 rfl) ?_
  refine lv_iconst (v := 1) hx hb dX12_most_10 (by decide) ?_
  refine lv_isub hx hb dX12_most_11 ?_
  refine mh_iald cx wd dX12_most_12 hX (fun v8 hX => ?_)
  refine lv_istore (lv' := [(5, .int v8), (4, .int x2), (3, .int v6), (0, .ref o0), (1, .int x1), (2, .int x2)]) hx hb dX12_most_13 hl (Nat.le_of_ble_eq_true rfl) rfl (fun ls hl => ?_)
  refine lv_aload_n hx hb dX12_most_15 rfl (lv_at hl 3 rfl) ?_
  refine mh_getR cx wd fl_X12_26 dX12_most_16 hX (fun a9 hX => ?_)
  refine lv_iload_n hx hb dX12_most_19 rfl (lv_at hl 4 rfl) ?_
  refine mh_aald cx wd 5 rfl rfl dX12_most_20 hX (fun a10 hX => ?_)
  refine lv_iload_n hx hb dX12_most_21 rfl (lv_at hl 5 rfl) ?_
  refine mh_iald cx wd dX12_most_22 hX (fun v11 hX => ?_)
  refine lv_istore (lv' := [(6, .int v11), (5, .int v8), (4, .int x2), (3, .int v6), (0, .ref o0), (1, .int x1), (2, .int x2)]) hx hb dX12_most_23 hl (Nat.le_of_ble_eq_true rfl) rfl (fun ls hl => ?_)
  refine lv_iconst (v := 0) hx hb dX12_most_25 (by decide) ?_
  refine mh_topi hX (fun v12 hX => ?_)
  refine lv_istore (lv' := [(7, .int v12), (6, .int v11), (5, .int v8), (4, .int x2), (3, .int v6), (0, .ref o0), (1, .int x1), (2, .int x2)]) hx hb dX12_most_26 hl (Nat.le_of_ble_eq_true rfl) rfl (fun ls hl => ?_)
  exact w_X12_most_b28 cx hr mh_fu _ _ _ _ _ _ _ h _ _ ls wd (lv_sub hl [5, 6, 4, 3, 2, 1, 0] rfl) hX
set_option maxRecDepth 100000 in
theorem c_X12_most {l : Launch} {L : List Nat} {h h' : mh_H} {r : Int32} {o0 : Nat} {x1 : Int32} {x2 : Int32} (hX : f_X12_most_e o0 x1 x2 h = some (r, h')) : mh_MI l yX12_most (Cond.code yX12_most cX12_most 8 (some .int) :: mh_TB) (mh_rm 0) [.ref o0, .int x1, .int x2] L h r h' :=
  mh_of (mc := 0) (ms := 0) (Qc := fun D ks sz => mh_Qi D ks L sz r h') (plainFor_of_name (by decide)) (Nat.le_of_ble_eq_true rfl) (fun p e s m below meth c D ks ls hr cx wd hl => by
    have hl : lv_has ls 8 [(0, .ref o0), (1, .int x1), (2, .int x2)] := hl
    exact w_X12_most_e cx hr o0 x1 x2 h _ _ ls wd hl hX)
def f_X12_with_b31 (o0 : Nat) (h : mh_H) : Option (Int64 × mh_H) :=
  mh_b2 (mh_cal h o0 12 (f_X12_fail_e o0 (1 : Int32) h)) fun v2 h1 =>
  some ((v2).toInt64, h1)
def f_X12_with_b146 (t0 : Int64) (h : mh_H) : Option (Int64 × mh_H) :=
  some (t0, h)
def f_X12_with_b125 (o0 : Nat) (y6 : Int64) (x9 : Int32) (x10 : Int32) (h : mh_H) : Option (Int64 × mh_H) :=
  (mh_gI h o0 12 7).bind fun v3 =>
  if x9 = v3 then (
  f_X12_with_b146 ((x10).toInt64 + y6) h) else
  f_X12_with_b146 ((x10).toInt64) h
def f_X12_with_b170 (h : mh_H) : Option (Int64 × mh_H) :=
  some ((0 : Int64), h)
def f_X12_with_b101 : Nat → Nat → Int32 → Int64 → Int32 → Int32 → mh_H → Option (Int64 × mh_H)
  | 0, _, _, _, _, _, _ => none
  | n + 1, o0, x4, y6, x8, x9, h =>
    if x9 ≤ 0 then (
    f_X12_with_b170 h) else
    mh_b2 (mh_cal h o0 12 (f_X12_most_e o0 x9 x8 h)) fun v5 h4 =>
    if (x9 - (1 : Int32)) = x4 then (
    f_X12_with_b125 o0 y6 x9 v5 h4) else
    (mh_gR h4 o0 12 6).bind fun a6 =>
    (mh_aI h4 a6 0 (x9 - (1 : Int32))).bind fun v7 =>
    mh_nm (x8 - (v5 * v7)) fun v8 =>
    mh_nm (x9 + Int32.ofInt (-1)) fun v9 =>
    f_X12_with_b101 n o0 x4 y6 v8 v9 h4
def f_X12_with_e (o0 : Nat) (x1 : Int32) (y2 : Int64) (x4 : Int32) (h : mh_H) : Option (Int64 × mh_H) :=
  (mh_pI h o0 12 0 (0 : Int32)).bind fun h10 =>
  mh_b2 (f_X12_isMint_e x1 h10) fun v12 h11 =>
  if v12 = 0 then (
  f_X12_with_b31 o0 h11) else
  if x4 < 0 then (
  f_X12_with_b31 o0 h11) else
  (mh_gR h11 o0 12 1).bind fun a13 =>
  mh_b2 (f_X12_mintAt_e x1 h11) fun v15 h14 =>
  (mh_aI h14 a13 0 v15).bind fun v16 =>
  if x4 < v16 then (
  mh_b2 (f_X12_isSum_e y2 h14) fun v18 h17 =>
  if v18 = 0 then (
  mh_b2 (mh_cal h17 o0 12 (f_X12_fail_e o0 (2 : Int32) h17)) fun v29 h28 =>
  some ((v29).toInt64, h28)) else
  (mh_cal h17 o0 12 (f_X12_table_e o0 x1 h17)).bind fun h19 =>
  mh_b2 (mh_cal h19 o0 12 (f_X12_fewestOf_e o0 y2 h19)) fun w21 h20 =>
  if 0 ≤ (lg_cmp w21 (0 : Int64)) then (
  mh_b2 (mh_cal h20 o0 12 (f_X12_down_e o0 y2 h20)) fun v23 h22 =>
  mh_b2 (mh_cal h22 o0 12 (f_X12_greatest_e o0 h22)) fun v25 h24 =>
  mh_nz ((v25).toInt64 = 0) <|
  mh_nm ((y2 - (v23).toInt64) / (v25).toInt64) fun w26 =>
  (mh_gI h24 o0 12 7).bind fun v27 =>
  f_X12_with_b101 mh_fu o0 x4 w26 v23 v27 h24) else
  some ((-1 : Int64), h20)) else
  f_X12_with_b31 o0 h14
set_option maxRecDepth 100000 in
set_option maxHeartbeats 4000000 in
theorem w_X12_with_b31 {p : Program} {l : Launch} {e : Env} {s : State} {m : MethodId} {args : Array Value} {below : List Frame} {meth : Method} {c : Code} {D : va_G} {ks : Nat → ClassId} {L : List Nat} {r : Int64} {h' : mh_H} (cx : mh_C p m c cX12_with 11 s args RX12 meth D ks (mh_A L s.heap.size)) (hr : meth.sig.returnType = (some .long)) :
    ∀ (o0 : Nat) (h : mh_H) (H : Heap) (locs : List Loc) (ls : Array Slot), mh_W D ks L (mh_A L s.heap.size) s.heap h H locs → lv_has ls 11 [(0, .ref o0)] → f_X12_with_b31 o0 h = some (r, h') → W p l e (mh_rm 3) s m args below meth c H locs 0 0 (MQ below (mh_Ql D ks L s.heap.size r h') args s 0 0 (mh_A L s.heap.size)) (F0 m 31 ls []) := by
  intro o0 h H locs ls wd hl hX
  have hx := cx.1.1
  have hb := cx.1.2.1
  unfold f_X12_with_b31 at hX
  refine lv_aload_n hx hb dX12_with_31 rfl (lv_at hl 0 rfl) ?_
  refine lv_iconst (v := 1) hx hb dX12_with_32 (by decide) ?_
  refine mh_callVI cx wd [.int (1 : Int32)] (rfl : vwCl[12]? = some (RX12, TX12, 38)) yw_X12_fail vw_X12_122 rfl hl.1 rfl (Nat.le_of_ble_eq_true rfl) dX12_with_33 ⟨Nat.le_of_ble_eq_true rfl, Nat.le_of_ble_eq_true rfl⟩ ⟨Nat.le_refl _, Nat.le_refl _⟩ (fun _ _ q => c_X12_fail q) hX (fun v2 h1 H locs wd hX => ?_)
  refine lv_i2l hx hb dX12_with_36 rfl ?_
  exact mh_lret cx wd hr hX dX12_with_37
set_option maxRecDepth 100000 in
set_option maxHeartbeats 4000000 in
theorem w_X12_with_b146 {p : Program} {l : Launch} {e : Env} {s : State} {m : MethodId} {args : Array Value} {below : List Frame} {meth : Method} {c : Code} {D : va_G} {ks : Nat → ClassId} {L : List Nat} {r : Int64} {h' : mh_H} (cx : mh_C p m c cX12_with 11 s args RX12 meth D ks (mh_A L s.heap.size)) (hr : meth.sig.returnType = (some .long)) :
    ∀ (t0 : Int64) (h : mh_H) (H : Heap) (locs : List Loc) (ls : Array Slot), mh_W D ks L (mh_A L s.heap.size) s.heap h H locs → lv_has ls 11 [] → f_X12_with_b146 t0 h = some (r, h') → W p l e (mh_rm 3) s m args below meth c H locs 0 0 (MQ below (mh_Ql D ks L s.heap.size r h') args s 0 0 (mh_A L s.heap.size)) (F0 m 146 ls [.long t0]) := by
  intro t0 h H locs ls wd hl hX
  have hx := cx.1.1
  have hb := cx.1.2.1
  unfold f_X12_with_b146 at hX
  exact mh_lret cx wd hr hX dX12_with_146
set_option maxRecDepth 100000 in
set_option maxHeartbeats 4000000 in
theorem w_X12_with_b125 {p : Program} {l : Launch} {e : Env} {s : State} {m : MethodId} {args : Array Value} {below : List Frame} {meth : Method} {c : Code} {D : va_G} {ks : Nat → ClassId} {L : List Nat} {r : Int64} {h' : mh_H} (cx : mh_C p m c cX12_with 11 s args RX12 meth D ks (mh_A L s.heap.size)) (hr : meth.sig.returnType = (some .long)) :
    ∀ (o0 : Nat) (y6 : Int64) (x9 : Int32) (x10 : Int32) (h : mh_H) (H : Heap) (locs : List Loc) (ls : Array Slot), mh_W D ks L (mh_A L s.heap.size) s.heap h H locs → lv_has ls 11 [(0, .ref o0), (6, .long y6), (9, .int x9), (10, .int x10)] → f_X12_with_b125 o0 y6 x9 x10 h = some (r, h') → W p l e (mh_rm 3) s m args below meth c H locs 0 0 (MQ below (mh_Ql D ks L s.heap.size r h') args s 0 0 (mh_A L s.heap.size)) (F0 m 125 ls []) := by
  intro o0 y6 x9 x10 h H locs ls wd hl hX
  have hx := cx.1.1
  have hb := cx.1.2.1
  unfold f_X12_with_b125 at hX
  refine lv_iload hx hb dX12_with_125 (lv_at hl 2 rfl) ?_
  refine lv_aload_n hx hb dX12_with_127 rfl (lv_at hl 0 rfl) ?_
  refine mh_getI cx wd fl_X12_21 dX12_with_128 hX (fun v3 hX => ?_)
  refine lv_icmp_ne (tgt := 143) hx hb dX12_with_131 rfl (fun hc => (fun hX => ?_) ((mh_if hX).2 hc)) (fun hc => (fun hX => ?_) ((mh_if hX).1 hc))
  · refine lv_iload hx hb dX12_with_143 (lv_at hl 3 rfl) ?_
    refine lv_i2l hx hb dX12_with_145 rfl ?_
    exact w_X12_with_b146 cx hr _ h _ _ ls wd (lv_sub hl [] rfl) hX
  · refine lv_iload hx hb dX12_with_134 (lv_at hl 3 rfl) ?_
    refine lv_i2l hx hb dX12_with_136 rfl ?_
    refine lv_lload hx hb dX12_with_137 (lv_at hl 1 rfl) ?_
    refine lv_ladd hx hb dX12_with_139 ?_
    refine lv_goto (tgt := 146) hx hb dX12_with_140 rfl ?_
    exact w_X12_with_b146 cx hr _ h _ _ ls wd (lv_sub hl [] rfl) hX
set_option maxRecDepth 100000 in
set_option maxHeartbeats 4000000 in
theorem w_X12_with_b170 {p : Program} {l : Launch} {e : Env} {s : State} {m : MethodId} {args : Array Value} {below : List Frame} {meth : Method} {c : Code} {D : va_G} {ks : Nat → ClassId} {L : List Nat} {r : Int64} {h' : mh_H} (cx : mh_C p m c cX12_with 11 s args RX12 meth D ks (mh_A L s.heap.size)) (hr : meth.sig.returnType = (some .long)) :
    ∀ (h : mh_H) (H : Heap) (locs : List Loc) (ls : Array Slot), mh_W D ks L (mh_A L s.heap.size) s.heap h H locs → lv_has ls 11 [] → f_X12_with_b170  h = some (r, h') → W p l e (mh_rm 3) s m args below meth c H locs 0 0 (MQ below (mh_Ql D ks L s.heap.size r h') args s 0 0 (mh_A L s.heap.size)) (F0 m 170 ls []) := by
  intro  h H locs ls wd hl hX
  have hx := cx.1.1
  have hb := cx.1.2.1
  unfold f_X12_with_b170 at hX
  refine lv_lconst (v := 0) hx hb dX12_with_170 (by decide) ?_
  exact mh_lret cx wd hr hX dX12_with_171
set_option maxRecDepth 100000 in
set_option maxHeartbeats 4000000 in
theorem w_X12_with_b101 {p : Program} {l : Launch} {e : Env} {s : State} {m : MethodId} {args : Array Value} {below : List Frame} {meth : Method} {c : Code} {D : va_G} {ks : Nat → ClassId} {L : List Nat} {r : Int64} {h' : mh_H} (cx : mh_C p m c cX12_with 11 s args RX12 meth D ks (mh_A L s.heap.size)) (hr : meth.sig.returnType = (some .long)) :
    ∀ n : Nat, ∀ (o0 : Nat) (x4 : Int32) (y6 : Int64) (x8 : Int32) (x9 : Int32) (h : mh_H) (H : Heap) (locs : List Loc) (ls : Array Slot), mh_W D ks L (mh_A L s.heap.size) s.heap h H locs → lv_has ls 11 [(0, .ref o0), (4, .int x4), (6, .long y6), (8, .int x8), (9, .int x9)] → f_X12_with_b101 n o0 x4 y6 x8 x9 h = some (r, h') → W p l e (mh_rm 3) s m args below meth c H locs 0 0 (MQ below (mh_Ql D ks L s.heap.size r h') args s 0 0 (mh_A L s.heap.size)) (F0 m 101 ls []) := by
  intro n
  induction n with
  | zero =>
    intro o0 x4 y6 x8 x9 h H locs ls wd hl hX
    cases hX
  | succ n ih =>
    intro o0 x4 y6 x8 x9 h H locs ls wd hl hX
    have hx := cx.1.1
    have hb := cx.1.2.1
    rw [f_X12_with_b101] at hX
    refine lv_iload hx hb dX12_with_101 (lv_at hl 4 rfl) ?_
    refine lv_if_le (tgt := 170) hx hb dX12_with_103 rfl (fun hc => (fun hX => ?_) ((mh_if hX).1 hc)) (fun hc => (fun hX => ?_) ((mh_if hX).2 hc))
    · exact w_X12_with_b170 cx hr  h _ _ ls wd (lv_sub hl [] rfl) hX
    · refine lv_aload_n hx hb dX12_with_106 rfl (lv_at hl 0 rfl) ?_
      refine lv_iload hx hb dX12_with_107 (lv_at hl 4 rfl) ?_
      refine lv_iload hx hb dX12_with_109 (lv_at hl 3 rfl) ?_
      refine mh_callVI cx wd [.int x9, .int x8] (rfl : vwCl[12]? = some (RX12, TX12, 38)) yw_X12_most vw_X12_153 rfl hl.1 rfl (Nat.le_of_ble_eq_true rfl) dX12_with_111 ⟨Nat.le_of_ble_eq_true rfl, Nat.le_of_ble_eq_true rfl⟩ ⟨Nat.le_refl _, Nat.le_refl _⟩ (fun _ _ q => c_X12_most q) hX (fun v5 h4 H locs wd hX => ?_)
      refine lv_istore (lv' := [(10, .int v5), (0, .ref o0), (4, .int x4), (6, .long y6), (8, .int x8), (9, .int x9)]) hx hb dX12_with_114 hl (Nat.le_of_ble_eq_true rfl) rfl (fun ls hl => ?_)
      refine lv_iload hx hb dX12_with_116 (lv_at hl 5 rfl) ?_
      refine lv_iconst (v := 1) hx hb dX12_with_118 (by decide) ?_
      refine lv_isub hx hb dX12_with_119 ?_
      refine lv_iload hx hb dX12_with_120 (lv_at hl 2 rfl) ?_
      refine lv_icmp_ne (tgt := 147) hx hb dX12_with_122 rfl (fun hc => (fun hX => ?_) ((mh_if hX).2 hc)) (fun hc => (fun hX => ?_) ((mh_if hX).1 hc))
      · refine lv_iload hx hb dX12_with_147 (lv_at hl 4 rfl) ?_
        refine lv_iload hx hb dX12_with_149 (lv_at hl 0 rfl) ?_
        refine lv_aload_n hx hb dX12_with_151 rfl (lv_at hl 1 rfl) ?_
        refine mh_getR cx wd fl_X12_18 dX12_with_152 hX (fun a6 hX => ?_)
        refine lv_iload hx hb dX12_with_155 (lv_at hl 5 rfl) ?_
        refine lv_iconst (v := 1) hx hb dX12_with_157 (by decide) ?_
        refine lv_isub hx hb dX12_with_158 ?_
        refine mh_iald cx wd dX12_with_159 hX (fun v7 hX => ?_)
        refine lv_imul hx hb dX12_with_160 ?_
        refine lv_isub hx hb dX12_with_161 ?_
        refine mh_topi hX (fun v8 hX => ?_)
        refine lv_istore (lv' := [(8, .int v8), (10, .int v5), (0, .ref o0), (4, .int x4), (6, .long y6), (9, .int x9)]) hx hb dX12_with_162 hl (Nat.le_of_ble_eq_true rfl) rfl (fun ls hl => ?_)
        obtain ⟨v9, ev9, hX⟩ := mh_nmx hX
        refine lv_iinc (k := 5) (v := v9) (lv' := [(9, .int v9), (8, .int v8), (10, .int v5), (0, .ref o0), (4, .int x4), (6, .long y6)]) hx hb dX12_with_164 hl rfl ev9 (Nat.le_of_ble_eq_true rfl) rfl (fun ls hl => ?_)
        refine lv_goto (tgt := 101) hx hb dX12_with_167 rfl ?_
        exact ih _ _ _ _ _ h4 _ _ ls wd (lv_sub hl [3, 4, 5, 1, 0] rfl) hX
      · exact w_X12_with_b125 cx hr _ _ _ _ h4 _ _ ls wd (lv_sub hl [1, 3, 5, 0] rfl) hX
set_option maxRecDepth 100000 in
set_option maxHeartbeats 4000000 in
theorem w_X12_with_e {p : Program} {l : Launch} {e : Env} {s : State} {m : MethodId} {args : Array Value} {below : List Frame} {meth : Method} {c : Code} {D : va_G} {ks : Nat → ClassId} {L : List Nat} {r : Int64} {h' : mh_H} (cx : mh_C p m c cX12_with 11 s args RX12 meth D ks (mh_A L s.heap.size)) (hr : meth.sig.returnType = (some .long)) :
    ∀ (o0 : Nat) (x1 : Int32) (y2 : Int64) (x4 : Int32) (h : mh_H) (H : Heap) (locs : List Loc) (ls : Array Slot), mh_W D ks L (mh_A L s.heap.size) s.heap h H locs → lv_has ls 11 [(0, .ref o0), (1, .int x1), (2, .long y2), (4, .int x4)] → f_X12_with_e o0 x1 y2 x4 h = some (r, h') → W p l e (mh_rm 3) s m args below meth c H locs 0 0 (MQ below (mh_Ql D ks L s.heap.size r h') args s 0 0 (mh_A L s.heap.size)) (F0 m 0 ls []) := by
  intro o0 x1 y2 x4 h H locs ls wd hl hX
  have hx := cx.1.1
  have hb := cx.1.2.1
  unfold f_X12_with_e at hX
  refine lv_aload_n hx hb dX12_with_0 rfl (lv_at hl 0 rfl) ?_
  refine lv_iconst (v := 0) hx hb dX12_with_1 (by decide) ?_
  refine mh_putI cx wd fp_X12_96 dX12_with_2 hX (fun h10 H locs wd hX => ?_)
  refine lv_iload_n hx hb dX12_with_5 rfl (lv_at hl 1 rfl) ?_
  refine mh_callSI cx wd [.int x1] yw_X12_isMint sw_X12_111 rfl hl.1 rfl (Nat.le_of_ble_eq_true rfl) dX12_with_6 ⟨Nat.le_of_ble_eq_true rfl, Nat.le_of_ble_eq_true rfl⟩ ⟨Nat.le_refl _, Nat.le_refl _⟩ (fun _ _ q => c_X12_isMint q) hX (fun v12 h11 H locs wd hX => ?_)
  refine lv_if_eq (tgt := 31) hx hb dX12_with_9 rfl (fun hc => (fun hX => ?_) ((mh_if hX).1 hc)) (fun hc => (fun hX => ?_) ((mh_if hX).2 hc))
  · exact w_X12_with_b31 cx hr _ h11 _ _ ls wd (lv_sub hl [0] rfl) hX
  · refine lv_iload hx hb dX12_with_12 (lv_at hl 3 rfl) ?_
    refine lv_if_lt (tgt := 31) hx hb dX12_with_14 rfl (fun hc => (fun hX => ?_) ((mh_if hX).1 hc)) (fun hc => (fun hX => ?_) ((mh_if hX).2 hc))
    · exact w_X12_with_b31 cx hr _ h11 _ _ ls wd (lv_sub hl [0] rfl) hX
    · refine lv_iload hx hb dX12_with_17 (lv_at hl 3 rfl) ?_
      refine lv_aload_n hx hb dX12_with_19 rfl (lv_at hl 0 rfl) ?_
      refine mh_getR cx wd fl_X12_9 dX12_with_20 hX (fun a13 hX => ?_)
      refine lv_iload_n hx hb dX12_with_23 rfl (lv_at hl 1 rfl) ?_
      refine mh_callSI cx wd [.int x1] yw_X12_mintAt sw_X12_115 rfl hl.1 rfl (Nat.le_of_ble_eq_true rfl) dX12_with_24 ⟨Nat.le_of_ble_eq_true rfl, Nat.le_of_ble_eq_true rfl⟩ ⟨Nat.le_refl _, Nat.le_refl _⟩ (fun _ _ q => c_X12_mintAt q) hX (fun v15 h14 H locs wd hX => ?_)
      refine mh_iald cx wd dX12_with_27 hX (fun v16 hX => ?_)
      refine lv_icmp_lt (tgt := 38) hx hb dX12_with_28 rfl (fun hc => (fun hX => ?_) ((mh_if hX).1 hc)) (fun hc => (fun hX => ?_) ((mh_if hX).2 hc))
      · refine lv_lload_n hx hb dX12_with_38 rfl (lv_at hl 2 rfl) ?_
        refine mh_callSI cx wd [.long y2] yw_X12_isSum sw_X12_141 rfl hl.1 rfl (Nat.le_of_ble_eq_true rfl) dX12_with_39 ⟨Nat.le_of_ble_eq_true rfl, Nat.le_of_ble_eq_true rfl⟩ ⟨Nat.le_refl _, Nat.le_refl _⟩ (fun _ _ q => c_X12_isSum q) hX (fun v18 h17 H locs wd hX => ?_)
        refine lv_if_ne (tgt := 52) hx hb dX12_with_42 rfl (fun hc => (fun hX => ?_) ((mh_if hX).2 hc)) (fun hc => (fun hX => ?_) ((mh_if hX).1 hc))
        · refine lv_aload_n hx hb dX12_with_52 rfl (lv_at hl 0 rfl) ?_
          refine lv_iload_n hx hb dX12_with_53 rfl (lv_at hl 1 rfl) ?_
          refine mh_callVV cx wd [.int x1] (rfl : vwCl[12]? = some (RX12, TX12, 38)) yw_X12_table vw_X12_145 rfl hl.1 rfl (Nat.le_of_ble_eq_true rfl) dX12_with_54 ⟨Nat.le_of_ble_eq_true rfl, Nat.le_of_ble_eq_true rfl⟩ ⟨Nat.le_refl _, Nat.le_refl _⟩ (fun _ q => c_X12_table q) hX (fun h19 H locs wd hX => ?_)
          refine lv_aload_n hx hb dX12_with_57 rfl (lv_at hl 0 rfl) ?_
          refine lv_lload_n hx hb dX12_with_58 rfl (lv_at hl 2 rfl) ?_
          refine mh_callVJ cx wd [.long y2] (rfl : vwCl[12]? = some (RX12, TX12, 38)) yw_X12_fewestOf vw_X12_149 rfl hl.1 rfl (Nat.le_of_ble_eq_true rfl) dX12_with_59 ⟨Nat.le_of_ble_eq_true rfl, Nat.le_of_ble_eq_true rfl⟩ ⟨Nat.le_refl _, Nat.le_refl _⟩ (fun _ _ q => c_X12_fewestOf q) hX (fun w21 h20 H locs wd hX => ?_)
          refine lv_lconst (v := 0) hx hb dX12_with_62 (by decide) ?_
          refine W.lcmp hx hb dX12_with_63 ?_
          refine lv_if_ge (tgt := 71) hx hb dX12_with_64 rfl (fun hc => (fun hX => ?_) ((mh_if hX).1 hc)) (fun hc => (fun hX => ?_) ((mh_if hX).2 hc))
          · refine lv_aload_n hx hb dX12_with_71 rfl (lv_at hl 0 rfl) ?_
            refine lv_lload_n hx hb dX12_with_72 rfl (lv_at hl 2 rfl) ?_
            refine mh_callVI cx wd [.long y2] (rfl : vwCl[12]? = some (RX12, TX12, 38)) yw_X12_down vw_X12_137 rfl hl.1 rfl (Nat.le_of_ble_eq_true rfl) dX12_with_73 ⟨Nat.le_of_ble_eq_true rfl, Nat.le_of_ble_eq_true rfl⟩ ⟨Nat.le_refl _, Nat.le_refl _⟩ (fun _ _ q => c_X12_down q) hX (fun v23 h22 H locs wd hX => ?_)
            refine lv_istore (lv' := [(5, .int v23), (0, .ref o0), (1, .int x1), (2, .long y2), (4, .int x4)]) hx hb dX12_with_76 hl (Nat.le_of_ble_eq_true rfl) rfl (fun ls hl => ?_)
            refine lv_lload_n hx hb dX12_with_78 rfl (lv_at hl 3 rfl) ?_
            refine lv_iload hx hb dX12_with_79 (lv_at hl 0 rfl) ?_
            refine lv_i2l hx hb dX12_with_81 rfl ?_
            refine lv_lsub hx hb dX12_with_82 ?_
            refine lv_aload_n hx hb dX12_with_83 rfl (lv_at hl 1 rfl) ?_
            refine mh_callVI cx wd [] (rfl : vwCl[12]? = some (RX12, TX12, 38)) yw_X12_greatest vw_X12_129 rfl hl.1 rfl (Nat.le_of_ble_eq_true rfl) dX12_with_84 ⟨Nat.le_of_ble_eq_true rfl, Nat.le_of_ble_eq_true rfl⟩ ⟨Nat.le_refl _, Nat.le_refl _⟩ (fun _ _ q => c_X12_greatest q) hX (fun v25 h24 H locs wd hX => ?_)
            refine lv_i2l hx hb dX12_with_87 rfl ?_
            obtain ⟨hz, hX⟩ := mh_nzk hX
            refine lv_ldiv hx hb dX12_with_88 hz ?_
            refine mh_topl hX (fun w26 hX => ?_)
            refine lv_lstore (lv' := [(6, .long w26), (5, .int v23), (0, .ref o0), (1, .int x1), (2, .long y2), (4, .int x4)]) hx hb dX12_with_89 hl (Nat.le_of_ble_eq_true rfl) rfl (fun ls hl => ?_)
            refine lv_iload hx hb dX12_with_91 (lv_at hl 1 rfl) ?_
            refine lv_istore (lv' := [(8, .int v23), (6, .long w26), (5, .int v23), (0, .ref o0), (1, .int x1), (2, .long y2), (4, .int x4)]) hx hb dX12_with_93 hl (Nat.le_of_ble_eq_true rfl) rfl (fun ls hl => ?_)
            refine lv_aload_n hx hb dX12_with_95 rfl (lv_at hl 3 rfl) ?_
            refine mh_getI cx wd fl_X12_21 dX12_with_96 hX (fun v27 hX => ?_)
            refine lv_istore (lv' := [(9, .int v27), (8, .int v23), (6, .long w26), (5, .int v23), (0, .ref o0), (1, .int x1), (2, .long y2), (4, .int x4)]) hx hb dX12_with_99 hl (Nat.le_of_ble_eq_true rfl) rfl (fun ls hl => ?_)
            exact w_X12_with_b101 cx hr mh_fu _ _ _ _ _ h24 _ _ ls wd (lv_sub hl [4, 7, 2, 1, 0] rfl) hX
          · refine mh_ldc2 cx kl_X12_135 dX12_with_67 ?_
            exact mh_lret cx wd hr hX dX12_with_70
        · refine lv_aload_n hx hb dX12_with_45 rfl (lv_at hl 0 rfl) ?_
          refine lv_iconst (v := 2) hx hb dX12_with_46 (by decide) ?_
          refine mh_callVI cx wd [.int (2 : Int32)] (rfl : vwCl[12]? = some (RX12, TX12, 38)) yw_X12_fail vw_X12_122 rfl hl.1 rfl (Nat.le_of_ble_eq_true rfl) dX12_with_47 ⟨Nat.le_of_ble_eq_true rfl, Nat.le_of_ble_eq_true rfl⟩ ⟨Nat.le_refl _, Nat.le_refl _⟩ (fun _ _ q => c_X12_fail q) hX (fun v29 h28 H locs wd hX => ?_)
          refine lv_i2l hx hb dX12_with_50 rfl ?_
          exact mh_lret cx wd hr hX dX12_with_51
      · exact w_X12_with_b31 cx hr _ h14 _ _ ls wd (lv_sub hl [0] rfl) hX
set_option maxRecDepth 100000 in
theorem c_X12_with {l : Launch} {L : List Nat} {h h' : mh_H} {r : Int64} {o0 : Nat} {x1 : Int32} {y2 : Int64} {x4 : Int32} (hX : f_X12_with_e o0 x1 y2 x4 h = some (r, h')) : mh_MJ l yX12_with (Cond.code yX12_with cX12_with 11 (some .long) :: mh_TB) (mh_rm 3) [.ref o0, .int x1, .long y2, .int x4] L h r h' :=
  mh_of (mc := 0) (ms := 0) (Qc := fun D ks sz => mh_Ql D ks L sz r h') (plainFor_of_name (by decide)) (Nat.le_of_ble_eq_true rfl) (fun p e s m below meth c D ks ls hr cx wd hl => by
    have hl : lv_has ls 11 [(0, .ref o0), (1, .int x1), (2, .long y2), (4, .int x4)] := hl
    exact w_X12_with_e cx hr o0 x1 y2 x4 h _ _ ls wd hl hX)
def f_X12_greedy_b109 (t0 : Int64) (h : mh_H) : Option (Int64 × mh_H) :=
  some (t0, h)
def f_X12_greedy_b94 (y4 : Int64) (y6 : Int64) (h : mh_H) : Option (Int64 × mh_H) :=
  if (lg_cmp y4 (0 : Int64)) = 0 then (
  f_X12_greedy_b109 y6 h) else
  f_X12_greedy_b109 (-1 : Int64) h
def f_X12_greedy_b50 : Nat → Nat → Int32 → Int64 → Int64 → Int32 → mh_H → Option (Int64 × mh_H)
  | 0, _, _, _, _, _, _ => none
  | n + 1, o0, x1, y4, y6, x8, h =>
    if x8 ≤ 0 then (
    f_X12_greedy_b94 y4 y6 h) else
    (mh_gR h o0 12 1).bind fun a1 =>
    mh_b2 (f_X12_mintAt_e x1 h) fun v3 h2 =>
    (mh_aI h2 a1 0 (v3 + x8)).bind fun v4 =>
    mh_nz ((v4).toInt64 = 0) <|
    mh_nm (y6 + (y4 / (v4).toInt64)) fun w5 =>
    mh_nz ((v4).toInt64 = 0) <|
    mh_nm (mh_lrem y4 ((v4).toInt64)) fun w6 =>
    mh_nm (x8 + Int32.ofInt (-1)) fun v7 =>
    f_X12_greedy_b50 n o0 x1 w6 w5 v7 h2
def f_X12_greedy_e (o0 : Nat) (x1 : Int32) (y2 : Int64) (h : mh_H) : Option (Int64 × mh_H) :=
  (mh_pI h o0 12 0 (0 : Int32)).bind fun h8 =>
  mh_b2 (f_X12_isMint_e x1 h8) fun v10 h9 =>
  if v10 = 0 then (
  mh_b2 (mh_cal h9 o0 12 (f_X12_fail_e o0 (1 : Int32) h9)) fun v21 h20 =>
  some ((v21).toInt64, h20)) else
  mh_b2 (f_X12_isSum_e y2 h9) fun v12 h11 =>
  if v12 = 0 then (
  mh_b2 (mh_cal h11 o0 12 (f_X12_fail_e o0 (2 : Int32) h11)) fun v19 h18 =>
  some ((v19).toInt64, h18)) else
  mh_nm (0 : Int64) fun w13 =>
  (mh_gR h11 o0 12 1).bind fun a14 =>
  mh_b2 (f_X12_mintAt_e x1 h11) fun v16 h15 =>
  (mh_aI h15 a14 0 v16).bind fun v17 =>
  f_X12_greedy_b50 mh_fu o0 x1 y2 w13 v17 h15
set_option maxRecDepth 100000 in
set_option maxHeartbeats 4000000 in
theorem w_X12_greedy_b109 {p : Program} {l : Launch} {e : Env} {s : State} {m : MethodId} {args : Array Value} {below : List Frame} {meth : Method} {c : Code} {D : va_G} {ks : Nat → ClassId} {L : List Nat} {r : Int64} {h' : mh_H} (cx : mh_C p m c cX12_greedy 10 s args RX12 meth D ks (mh_A L s.heap.size)) (hr : meth.sig.returnType = (some .long)) :
    ∀ (t0 : Int64) (h : mh_H) (H : Heap) (locs : List Loc) (ls : Array Slot), mh_W D ks L (mh_A L s.heap.size) s.heap h H locs → lv_has ls 10 [] → f_X12_greedy_b109 t0 h = some (r, h') → W p l e (mh_rm 1) s m args below meth c H locs 0 0 (MQ below (mh_Ql D ks L s.heap.size r h') args s 0 0 (mh_A L s.heap.size)) (F0 m 109 ls [.long t0]) := by
  intro t0 h H locs ls wd hl hX
  have hx := cx.1.1
  have hb := cx.1.2.1
  unfold f_X12_greedy_b109 at hX
  exact mh_lret cx wd hr hX dX12_greedy_109
set_option maxRecDepth 100000 in
set_option maxHeartbeats 4000000 in
theorem w_X12_greedy_b94 {p : Program} {l : Launch} {e : Env} {s : State} {m : MethodId} {args : Array Value} {below : List Frame} {meth : Method} {c : Code} {D : va_G} {ks : Nat → ClassId} {L : List Nat} {r : Int64} {h' : mh_H} (cx : mh_C p m c cX12_greedy 10 s args RX12 meth D ks (mh_A L s.heap.size)) (hr : meth.sig.returnType = (some .long)) :
    ∀ (y4 : Int64) (y6 : Int64) (h : mh_H) (H : Heap) (locs : List Loc) (ls : Array Slot), mh_W D ks L (mh_A L s.heap.size) s.heap h H locs → lv_has ls 10 [(4, .long y4), (6, .long y6)] → f_X12_greedy_b94 y4 y6 h = some (r, h') → W p l e (mh_rm 1) s m args below meth c H locs 0 0 (MQ below (mh_Ql D ks L s.heap.size r h') args s 0 0 (mh_A L s.heap.size)) (F0 m 94 ls []) := by
  intro y4 y6 h H locs ls wd hl hX
  have hx := cx.1.1
  have hb := cx.1.2.1
  unfold f_X12_greedy_b94 at hX
  refine lv_lload hx hb dX12_greedy_94 (lv_at hl 0 rfl) ?_
  refine lv_lconst (v := 0) hx hb dX12_greedy_96 (by decide) ?_
  refine W.lcmp hx hb dX12_greedy_97 ?_
  refine lv_if_ne (tgt := 106) hx hb dX12_greedy_98 rfl (fun hc => (fun hX => ?_) ((mh_if hX).2 hc)) (fun hc => (fun hX => ?_) ((mh_if hX).1 hc))
  · refine mh_ldc2 cx kl_X12_135 dX12_greedy_106 ?_
    exact w_X12_greedy_b109 cx hr _ h _ _ ls wd (lv_sub hl [] rfl) hX
  · refine lv_lload hx hb dX12_greedy_101 (lv_at hl 1 rfl) ?_
    refine lv_goto (tgt := 109) hx hb dX12_greedy_103 rfl ?_
    exact w_X12_greedy_b109 cx hr _ h _ _ ls wd (lv_sub hl [] rfl) hX
set_option maxRecDepth 100000 in
set_option maxHeartbeats 4000000 in
theorem w_X12_greedy_b50 {p : Program} {l : Launch} {e : Env} {s : State} {m : MethodId} {args : Array Value} {below : List Frame} {meth : Method} {c : Code} {D : va_G} {ks : Nat → ClassId} {L : List Nat} {r : Int64} {h' : mh_H} (cx : mh_C p m c cX12_greedy 10 s args RX12 meth D ks (mh_A L s.heap.size)) (hr : meth.sig.returnType = (some .long)) :
    ∀ n : Nat, ∀ (o0 : Nat) (x1 : Int32) (y4 : Int64) (y6 : Int64) (x8 : Int32) (h : mh_H) (H : Heap) (locs : List Loc) (ls : Array Slot), mh_W D ks L (mh_A L s.heap.size) s.heap h H locs → lv_has ls 10 [(0, .ref o0), (1, .int x1), (4, .long y4), (6, .long y6), (8, .int x8)] → f_X12_greedy_b50 n o0 x1 y4 y6 x8 h = some (r, h') → W p l e (mh_rm 1) s m args below meth c H locs 0 0 (MQ below (mh_Ql D ks L s.heap.size r h') args s 0 0 (mh_A L s.heap.size)) (F0 m 50 ls []) := by
  intro n
  induction n with
  | zero =>
    intro o0 x1 y4 y6 x8 h H locs ls wd hl hX
    cases hX
  | succ n ih =>
    intro o0 x1 y4 y6 x8 h H locs ls wd hl hX
    have hx := cx.1.1
    have hb := cx.1.2.1
    rw [f_X12_greedy_b50] at hX
    refine lv_iload hx hb dX12_greedy_50 (lv_at hl 4 rfl) ?_
    refine lv_if_le (tgt := 94) hx hb dX12_greedy_52 rfl (fun hc => (fun hX => ?_) ((mh_if hX).1 hc)) (fun hc => (fun hX => ?_) ((mh_if hX).2 hc))
    · exact w_X12_greedy_b94 cx hr _ _ h _ _ ls wd (lv_sub hl [2, 3] rfl) hX
    · refine lv_aload_n hx hb dX12_greedy_55 rfl (lv_at hl 0 rfl) ?_
      refine mh_getR cx wd fl_X12_9 dX12_greedy_56 hX (fun a1 hX => ?_)
      refine lv_iload_n hx hb dX12_greedy_59 rfl (lv_at hl 1 rfl) ?_
      refine mh_callSI cx wd [.int x1] yw_X12_mintAt sw_X12_115 rfl hl.1 rfl (Nat.le_of_ble_eq_true rfl) dX12_greedy_60 ⟨Nat.le_of_ble_eq_true rfl, Nat.le_of_ble_eq_true rfl⟩ ⟨Nat.le_refl _, Nat.le_refl _⟩ (fun _ _ q => c_X12_mintAt q) hX (fun v3 h2 H locs wd hX => ?_)
      refine lv_iload hx hb dX12_greedy_63 (lv_at hl 4 rfl) ?_
      refine lv_iadd hx hb dX12_greedy_65 ?_
      refine mh_iald cx wd dX12_greedy_66 hX (fun v4 hX => ?_)
      refine lv_istore (lv' := [(9, .int v4), (0, .ref o0), (1, .int x1), (4, .long y4), (6, .long y6), (8, .int x8)]) hx hb dX12_greedy_67 hl (Nat.le_of_ble_eq_true rfl) rfl (fun ls hl => ?_)
      refine lv_lload hx hb dX12_greedy_69 (lv_at hl 4 rfl) ?_
      refine lv_lload hx hb dX12_greedy_71 (lv_at hl 3 rfl) ?_
      refine lv_iload hx hb dX12_greedy_73 (lv_at hl 0 rfl) ?_
      refine lv_i2l hx hb dX12_greedy_75 rfl ?_
      obtain ⟨hz, hX⟩ := mh_nzk hX
      refine lv_ldiv hx hb dX12_greedy_76 hz ?_
      refine lv_ladd hx hb dX12_greedy_77 ?_
      refine mh_topl hX (fun w5 hX => ?_)
      refine lv_lstore (lv' := [(6, .long w5), (9, .int v4), (0, .ref o0), (1, .int x1), (4, .long y4), (8, .int x8)]) hx hb dX12_greedy_78 hl (Nat.le_of_ble_eq_true rfl) rfl (fun ls hl => ?_)
      refine lv_lload hx hb dX12_greedy_80 (lv_at hl 4 rfl) ?_
      refine lv_iload hx hb dX12_greedy_82 (lv_at hl 1 rfl) ?_
      refine lv_i2l hx hb dX12_greedy_84 rfl ?_
      obtain ⟨hz, hX⟩ := mh_nzk hX
      refine lv_lrem hx hb dX12_greedy_85 hz ?_
      refine mh_topl hX (fun w6 hX => ?_)
      refine lv_lstore (lv' := [(4, .long w6), (6, .long w5), (9, .int v4), (0, .ref o0), (1, .int x1), (8, .int x8)]) hx hb dX12_greedy_86 hl (Nat.le_of_ble_eq_true rfl) rfl (fun ls hl => ?_)
      obtain ⟨v7, ev7, hX⟩ := mh_nmx hX
      refine lv_iinc (k := 5) (v := v7) (lv' := [(8, .int v7), (4, .long w6), (6, .long w5), (9, .int v4), (0, .ref o0), (1, .int x1)]) hx hb dX12_greedy_88 hl rfl ev7 (Nat.le_of_ble_eq_true rfl) rfl (fun ls hl => ?_)
      refine lv_goto (tgt := 50) hx hb dX12_greedy_91 rfl ?_
      exact ih _ _ _ _ _ h2 _ _ ls wd (lv_sub hl [4, 5, 1, 2, 0] rfl) hX
set_option maxRecDepth 100000 in
set_option maxHeartbeats 4000000 in
theorem w_X12_greedy_e {p : Program} {l : Launch} {e : Env} {s : State} {m : MethodId} {args : Array Value} {below : List Frame} {meth : Method} {c : Code} {D : va_G} {ks : Nat → ClassId} {L : List Nat} {r : Int64} {h' : mh_H} (cx : mh_C p m c cX12_greedy 10 s args RX12 meth D ks (mh_A L s.heap.size)) (hr : meth.sig.returnType = (some .long)) :
    ∀ (o0 : Nat) (x1 : Int32) (y2 : Int64) (h : mh_H) (H : Heap) (locs : List Loc) (ls : Array Slot), mh_W D ks L (mh_A L s.heap.size) s.heap h H locs → lv_has ls 10 [(0, .ref o0), (1, .int x1), (2, .long y2)] → f_X12_greedy_e o0 x1 y2 h = some (r, h') → W p l e (mh_rm 1) s m args below meth c H locs 0 0 (MQ below (mh_Ql D ks L s.heap.size r h') args s 0 0 (mh_A L s.heap.size)) (F0 m 0 ls []) := by
  intro o0 x1 y2 h H locs ls wd hl hX
  have hx := cx.1.1
  have hb := cx.1.2.1
  unfold f_X12_greedy_e at hX
  refine lv_aload_n hx hb dX12_greedy_0 rfl (lv_at hl 0 rfl) ?_
  refine lv_iconst (v := 0) hx hb dX12_greedy_1 (by decide) ?_
  refine mh_putI cx wd fp_X12_96 dX12_greedy_2 hX (fun h8 H locs wd hX => ?_)
  refine lv_iload_n hx hb dX12_greedy_5 rfl (lv_at hl 1 rfl) ?_
  refine mh_callSI cx wd [.int x1] yw_X12_isMint sw_X12_111 rfl hl.1 rfl (Nat.le_of_ble_eq_true rfl) dX12_greedy_6 ⟨Nat.le_of_ble_eq_true rfl, Nat.le_of_ble_eq_true rfl⟩ ⟨Nat.le_refl _, Nat.le_refl _⟩ (fun _ _ q => c_X12_isMint q) hX (fun v10 h9 H locs wd hX => ?_)
  refine lv_if_ne (tgt := 19) hx hb dX12_greedy_9 rfl (fun hc => (fun hX => ?_) ((mh_if hX).2 hc)) (fun hc => (fun hX => ?_) ((mh_if hX).1 hc))
  · refine lv_lload_n hx hb dX12_greedy_19 rfl (lv_at hl 2 rfl) ?_
    refine mh_callSI cx wd [.long y2] yw_X12_isSum sw_X12_141 rfl hl.1 rfl (Nat.le_of_ble_eq_true rfl) dX12_greedy_20 ⟨Nat.le_of_ble_eq_true rfl, Nat.le_of_ble_eq_true rfl⟩ ⟨Nat.le_refl _, Nat.le_refl _⟩ (fun _ _ q => c_X12_isSum q) hX (fun v12 h11 H locs wd hX => ?_)
    refine lv_if_ne (tgt := 33) hx hb dX12_greedy_23 rfl (fun hc => (fun hX => ?_) ((mh_if hX).2 hc)) (fun hc => (fun hX => ?_) ((mh_if hX).1 hc))
    · refine lv_lload_n hx hb dX12_greedy_33 rfl (lv_at hl 2 rfl) ?_
      refine lv_lstore (lv' := [(4, .long y2), (0, .ref o0), (1, .int x1), (2, .long y2)]) hx hb dX12_greedy_34 hl (Nat.le_of_ble_eq_true rfl) rfl (fun ls hl => ?_)
      refine lv_lconst (v := 0) hx hb dX12_greedy_36 (by decide) ?_
      refine mh_topl hX (fun w13 hX => ?_)
      refine lv_lstore (lv' := [(6, .long w13), (4, .long y2), (0, .ref o0), (1, .int x1), (2, .long y2)]) hx hb dX12_greedy_37 hl (Nat.le_of_ble_eq_true rfl) rfl (fun ls hl => ?_)
      refine lv_aload_n hx hb dX12_greedy_39 rfl (lv_at hl 2 rfl) ?_
      refine mh_getR cx wd fl_X12_9 dX12_greedy_40 hX (fun a14 hX => ?_)
      refine lv_iload_n hx hb dX12_greedy_43 rfl (lv_at hl 3 rfl) ?_
      refine mh_callSI cx wd [.int x1] yw_X12_mintAt sw_X12_115 rfl hl.1 rfl (Nat.le_of_ble_eq_true rfl) dX12_greedy_44 ⟨Nat.le_of_ble_eq_true rfl, Nat.le_of_ble_eq_true rfl⟩ ⟨Nat.le_refl _, Nat.le_refl _⟩ (fun _ _ q => c_X12_mintAt q) hX (fun v16 h15 H locs wd hX => ?_)
      refine mh_iald cx wd dX12_greedy_47 hX (fun v17 hX => ?_)
      refine lv_istore (lv' := [(8, .int v17), (6, .long w13), (4, .long y2), (0, .ref o0), (1, .int x1), (2, .long y2)]) hx hb dX12_greedy_48 hl (Nat.le_of_ble_eq_true rfl) rfl (fun ls hl => ?_)
      exact w_X12_greedy_b50 cx hr mh_fu _ _ _ _ _ h15 _ _ ls wd (lv_sub hl [3, 4, 2, 1, 0] rfl) hX
    · refine lv_aload_n hx hb dX12_greedy_26 rfl (lv_at hl 0 rfl) ?_
      refine lv_iconst (v := 2) hx hb dX12_greedy_27 (by decide) ?_
      refine mh_callVI cx wd [.int (2 : Int32)] (rfl : vwCl[12]? = some (RX12, TX12, 38)) yw_X12_fail vw_X12_122 rfl hl.1 rfl (Nat.le_of_ble_eq_true rfl) dX12_greedy_28 ⟨Nat.le_of_ble_eq_true rfl, Nat.le_of_ble_eq_true rfl⟩ ⟨Nat.le_refl _, Nat.le_refl _⟩ (fun _ _ q => c_X12_fail q) hX (fun v19 h18 H locs wd hX => ?_)
      refine lv_i2l hx hb dX12_greedy_31 rfl ?_
      exact mh_lret cx wd hr hX dX12_greedy_32
  · refine lv_aload_n hx hb dX12_greedy_12 rfl (lv_at hl 0 rfl) ?_
    refine lv_iconst (v := 1) hx hb dX12_greedy_13 (by decide) ?_
    refine mh_callVI cx wd [.int (1 : Int32)] (rfl : vwCl[12]? = some (RX12, TX12, 38)) yw_X12_fail vw_X12_122 rfl hl.1 rfl (Nat.le_of_ble_eq_true rfl) dX12_greedy_14 ⟨Nat.le_of_ble_eq_true rfl, Nat.le_of_ble_eq_true rfl⟩ ⟨Nat.le_refl _, Nat.le_refl _⟩ (fun _ _ q => c_X12_fail q) hX (fun v21 h20 H locs wd hX => ?_)
    refine lv_i2l hx hb dX12_greedy_17 rfl ?_
    exact mh_lret cx wd hr hX dX12_greedy_18
set_option maxRecDepth 100000 in
theorem c_X12_greedy {l : Launch} {L : List Nat} {h h' : mh_H} {r : Int64} {o0 : Nat} {x1 : Int32} {y2 : Int64} (hX : f_X12_greedy_e o0 x1 y2 h = some (r, h')) : mh_MJ l yX12_greedy (Cond.code yX12_greedy cX12_greedy 10 (some .long) :: mh_TB) (mh_rm 1) [.ref o0, .int x1, .long y2] L h r h' :=
  mh_of (mc := 0) (ms := 0) (Qc := fun D ks sz => mh_Ql D ks L sz r h') (plainFor_of_name (by decide)) (Nat.le_of_ble_eq_true rfl) (fun p e s m below meth c D ks ls hr cx wd hl => by
    have hl : lv_has ls 10 [(0, .ref o0), (1, .int x1), (2, .long y2)] := hl
    exact w_X12_greedy_e cx hr o0 x1 y2 h _ _ ls wd hl hX)
