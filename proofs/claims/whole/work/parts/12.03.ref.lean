def f_X12_keepNeeded_b23 (k2 : Nat → Int32 → mh_H → Option mh_H) (o0 : Nat) (x1 : Int32) (t0 : Nat) (t1 : Int32) (t2 : Int32) (h : mh_H) : Option mh_H :=
  (mh_sZ h t0 t1 t2).bind fun h1 =>
  mh_nm (x1 + Int32.ofInt (1)) fun v2 =>
  k2 o0 v2 h1
def f_X12_keepNeeded_b122 (k34 : Nat → Int32 → Int32 → mh_H → Option mh_H) (o0 : Nat) (x1 : Int32) (x2 : Int32) (h : mh_H) : Option mh_H :=
  mh_nm (x2 + Int32.ofInt (1)) fun v3 =>
  k34 o0 x1 v3 h
def f_X12_keepNeeded_b115 (k74 : Nat → Int32 → Int32 → Int32 → Int32 → mh_H → Option mh_H) (o0 : Nat) (x1 : Int32) (x2 : Int32) (x3 : Int32) (x4 : Int32) (t0 : Nat) (t1 : Int32) (t2 : Int32) (h : mh_H) : Option mh_H :=
  (mh_sZ h t0 t1 t2).bind fun h4 =>
  mh_nm (x4 + Int32.ofInt (1)) fun v5 =>
  k74 o0 x1 x2 x3 v5 h4
def f_X12_keepNeeded_b110 (k115 : Nat → Int32 → Int32 → Int32 → Int32 → Nat → Int32 → Int32 → mh_H → Option mh_H) (o0 : Nat) (x1 : Int32) (x2 : Int32) (x3 : Int32) (x4 : Int32) (t0 : Nat) (t1 : Int32) (h : mh_H) : Option mh_H :=
  k115 o0 x1 x2 x3 x4 t0 t1 (1 : Int32) h
def f_X12_keepNeeded_b74 (k122 : Nat → Int32 → Int32 → mh_H → Option mh_H) : Nat → Nat → Int32 → Int32 → Int32 → Int32 → mh_H → Option mh_H
  | 0, _, _, _, _, _, _ => none
  | n + 1, o0, x1, x2, x3, x4, h =>
    if (300 : Int32) < x4 then (
    k122 o0 x1 x2 h) else
    (mh_gR h o0 12 33).bind fun a6 =>
    (mh_gR h o0 12 33).bind fun a7 =>
    (mh_aI h a7 2 x4).bind fun v8 =>
    if v8 = 0 then (
    (mh_gR h o0 12 33).bind fun a9 =>
    (mh_aI h a9 2 (x4 - x3)).bind fun v10 =>
    if v10 = 0 then (
    f_X12_keepNeeded_b115 (f_X12_keepNeeded_b74 k122 n) o0 x1 x2 x3 x4 a6 x4 (0 : Int32) h) else
    f_X12_keepNeeded_b110 (f_X12_keepNeeded_b115 (f_X12_keepNeeded_b74 k122 n)) o0 x1 x2 x3 x4 a6 x4 h) else
    f_X12_keepNeeded_b110 (f_X12_keepNeeded_b115 (f_X12_keepNeeded_b74 k122 n)) o0 x1 x2 x3 x4 a6 x4 h
def f_X12_keepNeeded_b128 (o0 : Nat) (x1 : Int32) (h : mh_H) : Option mh_H :=
  (mh_pI h o0 12 14 x1).bind fun h11 =>
  some h11
def f_X12_keepNeeded_b34 : Nat → Nat → Int32 → Int32 → mh_H → Option mh_H
  | 0, _, _, _, _ => none
  | n + 1, o0, x1, x2, h =>
    (mh_gI h o0 12 14).bind fun v12 =>
    if v12 ≤ x2 then (
    f_X12_keepNeeded_b128 o0 x1 h) else
    (mh_gR h o0 12 13).bind fun a13 =>
    (mh_aI h a13 0 x2).bind fun v14 =>
    (mh_gR h o0 12 33).bind fun a15 =>
    (mh_aI h a15 2 v14).bind fun v16 =>
    if v16 = 0 then (
    (mh_gR h o0 12 13).bind fun a17 =>
    (mh_sI h a17 x1 v14).bind fun h18 =>
    mh_nm (x1 + Int32.ofInt (1)) fun v19 =>
    f_X12_keepNeeded_b74 (f_X12_keepNeeded_b122 (f_X12_keepNeeded_b34 n)) mh_fu o0 v19 x2 v14 v14 h18) else
    f_X12_keepNeeded_b122 (f_X12_keepNeeded_b34 n) o0 x1 x2 h
def f_X12_keepNeeded_b30 (o0 : Nat) (h : mh_H) : Option mh_H :=
  mh_nm (0 : Int32) fun v20 =>
  mh_nm (0 : Int32) fun v21 =>
  f_X12_keepNeeded_b34 mh_fu o0 v20 v21 h
def f_X12_keepNeeded_b2 : Nat → Nat → Int32 → mh_H → Option mh_H
  | 0, _, _, _ => none
  | n + 1, o0, x1, h =>
    if (300 : Int32) < x1 then (
    f_X12_keepNeeded_b30 o0 h) else
    (mh_gR h o0 12 33).bind fun a22 =>
    if x1 = 0 then (
    f_X12_keepNeeded_b23 (f_X12_keepNeeded_b2 n) o0 x1 a22 x1 (1 : Int32) h) else
    f_X12_keepNeeded_b23 (f_X12_keepNeeded_b2 n) o0 x1 a22 x1 (0 : Int32) h
def f_X12_keepNeeded_e (o0 : Nat) (h : mh_H) : Option mh_H :=
  mh_nm (0 : Int32) fun v23 =>
  f_X12_keepNeeded_b2 mh_fu o0 v23 h
set_option maxRecDepth 100000 in
set_option maxHeartbeats 4000000 in
theorem w_X12_keepNeeded_b23 {p : Program} {l : Launch} {e : Env} {s : State} {m : MethodId} {args : Array Value} {below : List Frame} {meth : Method} {c : Code} {D : va_G} {ks : Nat → ClassId} {L : List Nat} {h' : mh_H} (k2 : Nat → Int32 → mh_H → Option mh_H) (cx : mh_C p m c cX12_keepNeeded 5 s args RX12 meth D ks (mh_A L s.heap.size)) (hr : meth.sig.returnType = none)
    (hk2 : ∀ (o0 : Nat) (x1 : Int32) (h : mh_H) (H : Heap) (locs : List Loc) (ls : Array Slot), mh_W D ks L (mh_A L s.heap.size) s.heap h H locs → lv_has ls 5 [(0, .ref o0), (1, .int x1)] → k2 o0 x1 h = some h' → W p l e (mh_rm 0) s m args below meth c H locs 0 0 (MQ below (mh_Qv D ks L s.heap.size h') args s 0 0 (mh_A L s.heap.size)) (F0 m 2 ls [])) :
    ∀ (o0 : Nat) (x1 : Int32) (t0 : Nat) (t1 : Int32) (t2 : Int32) (h : mh_H) (H : Heap) (locs : List Loc) (ls : Array Slot), mh_W D ks L (mh_A L s.heap.size) s.heap h H locs → lv_has ls 5 [(0, .ref o0), (1, .int x1)] → f_X12_keepNeeded_b23 k2 o0 x1 t0 t1 t2 h = some h' → W p l e (mh_rm 0) s m args below meth c H locs 0 0 (MQ below (mh_Qv D ks L s.heap.size h') args s 0 0 (mh_A L s.heap.size)) (F0 m 23 ls [.int t2, .int t1, .ref t0]) := by
  intro o0 x1 t0 t1 t2 h H locs ls wd hl hX
  have hx := cx.1.1
  have hb := cx.1.2.1
  unfold f_X12_keepNeeded_b23 at hX
  refine mh_zast cx wd dX12_keepNeeded_23 hX (fun h1 H locs wd hX => ?_)
  obtain ⟨v2, ev2, hX⟩ := mh_nmx hX
  refine lv_iinc (k := 1) (v := v2) (lv' := [(1, .int v2), (0, .ref o0)]) hx hb dX12_keepNeeded_24 hl rfl ev2 (Nat.le_of_ble_eq_true rfl) rfl (fun ls hl => ?_)
  refine lv_goto (tgt := 2) hx hb dX12_keepNeeded_27 rfl ?_
  exact hk2 _ _ h1 _ _ ls wd (lv_sub hl [1, 0] rfl) hX
set_option maxRecDepth 100000 in
set_option maxHeartbeats 4000000 in
theorem w_X12_keepNeeded_b122 {p : Program} {l : Launch} {e : Env} {s : State} {m : MethodId} {args : Array Value} {below : List Frame} {meth : Method} {c : Code} {D : va_G} {ks : Nat → ClassId} {L : List Nat} {h' : mh_H} (k34 : Nat → Int32 → Int32 → mh_H → Option mh_H) (cx : mh_C p m c cX12_keepNeeded 5 s args RX12 meth D ks (mh_A L s.heap.size)) (hr : meth.sig.returnType = none)
    (hk34 : ∀ (o0 : Nat) (x1 : Int32) (x2 : Int32) (h : mh_H) (H : Heap) (locs : List Loc) (ls : Array Slot), mh_W D ks L (mh_A L s.heap.size) s.heap h H locs → lv_has ls 5 [(0, .ref o0), (1, .int x1), (2, .int x2)] → k34 o0 x1 x2 h = some h' → W p l e (mh_rm 0) s m args below meth c H locs 0 0 (MQ below (mh_Qv D ks L s.heap.size h') args s 0 0 (mh_A L s.heap.size)) (F0 m 34 ls [])) :
    ∀ (o0 : Nat) (x1 : Int32) (x2 : Int32) (h : mh_H) (H : Heap) (locs : List Loc) (ls : Array Slot), mh_W D ks L (mh_A L s.heap.size) s.heap h H locs → lv_has ls 5 [(0, .ref o0), (1, .int x1), (2, .int x2)] → f_X12_keepNeeded_b122 k34 o0 x1 x2 h = some h' → W p l e (mh_rm 0) s m args below meth c H locs 0 0 (MQ below (mh_Qv D ks L s.heap.size h') args s 0 0 (mh_A L s.heap.size)) (F0 m 122 ls []) := by
  intro o0 x1 x2 h H locs ls wd hl hX
  have hx := cx.1.1
  have hb := cx.1.2.1
  unfold f_X12_keepNeeded_b122 at hX
  obtain ⟨v3, ev3, hX⟩ := mh_nmx hX
  refine lv_iinc (k := 2) (v := v3) (lv' := [(2, .int v3), (0, .ref o0), (1, .int x1)]) hx hb dX12_keepNeeded_122 hl rfl ev3 (Nat.le_of_ble_eq_true rfl) rfl (fun ls hl => ?_)
  refine lv_goto (tgt := 34) hx hb dX12_keepNeeded_125 rfl ?_
  exact hk34 _ _ _ h _ _ ls wd (lv_sub hl [1, 2, 0] rfl) hX
set_option maxRecDepth 100000 in
set_option maxHeartbeats 4000000 in
theorem w_X12_keepNeeded_b115 {p : Program} {l : Launch} {e : Env} {s : State} {m : MethodId} {args : Array Value} {below : List Frame} {meth : Method} {c : Code} {D : va_G} {ks : Nat → ClassId} {L : List Nat} {h' : mh_H} (k74 : Nat → Int32 → Int32 → Int32 → Int32 → mh_H → Option mh_H) (cx : mh_C p m c cX12_keepNeeded 5 s args RX12 meth D ks (mh_A L s.heap.size)) (hr : meth.sig.returnType = none)
    (hk74 : ∀ (o0 : Nat) (x1 : Int32) (x2 : Int32) (x3 : Int32) (x4 : Int32) (h : mh_H) (H : Heap) (locs : List Loc) (ls : Array Slot), mh_W D ks L (mh_A L s.heap.size) s.heap h H locs → lv_has ls 5 [(0, .ref o0), (1, .int x1), (2, .int x2), (3, .int x3), (4, .int x4)] → k74 o0 x1 x2 x3 x4 h = some h' → W p l e (mh_rm 0) s m args below meth c H locs 0 0 (MQ below (mh_Qv D ks L s.heap.size h') args s 0 0 (mh_A L s.heap.size)) (F0 m 74 ls [])) :
    ∀ (o0 : Nat) (x1 : Int32) (x2 : Int32) (x3 : Int32) (x4 : Int32) (t0 : Nat) (t1 : Int32) (t2 : Int32) (h : mh_H) (H : Heap) (locs : List Loc) (ls : Array Slot), mh_W D ks L (mh_A L s.heap.size) s.heap h H locs → lv_has ls 5 [(0, .ref o0), (1, .int x1), (2, .int x2), (3, .int x3), (4, .int x4)] → f_X12_keepNeeded_b115 k74 o0 x1 x2 x3 x4 t0 t1 t2 h = some h' → W p l e (mh_rm 0) s m args below meth c H locs 0 0 (MQ below (mh_Qv D ks L s.heap.size h') args s 0 0 (mh_A L s.heap.size)) (F0 m 115 ls [.int t2, .int t1, .ref t0]) := by
  intro o0 x1 x2 x3 x4 t0 t1 t2 h H locs ls wd hl hX
  have hx := cx.1.1
  have hb := cx.1.2.1
  unfold f_X12_keepNeeded_b115 at hX
  refine mh_zast cx wd dX12_keepNeeded_115 hX (fun h4 H locs wd hX => ?_)
  obtain ⟨v5, ev5, hX⟩ := mh_nmx hX
  refine lv_iinc (k := 4) (v := v5) (lv' := [(4, .int v5), (0, .ref o0), (1, .int x1), (2, .int x2), (3, .int x3)]) hx hb dX12_keepNeeded_116 hl rfl ev5 (Nat.le_of_ble_eq_true rfl) rfl (fun ls hl => ?_)
  refine lv_goto (tgt := 74) hx hb dX12_keepNeeded_119 rfl ?_
  exact hk74 _ _ _ _ _ h4 _ _ ls wd (lv_sub hl [1, 2, 3, 4, 0] rfl) hX
set_option maxRecDepth 100000 in
set_option maxHeartbeats 4000000 in
theorem w_X12_keepNeeded_b110 {p : Program} {l : Launch} {e : Env} {s : State} {m : MethodId} {args : Array Value} {below : List Frame} {meth : Method} {c : Code} {D : va_G} {ks : Nat → ClassId} {L : List Nat} {h' : mh_H} (k115 : Nat → Int32 → Int32 → Int32 → Int32 → Nat → Int32 → Int32 → mh_H → Option mh_H) (cx : mh_C p m c cX12_keepNeeded 5 s args RX12 meth D ks (mh_A L s.heap.size)) (hr : meth.sig.returnType = none)
    (hk115 : ∀ (o0 : Nat) (x1 : Int32) (x2 : Int32) (x3 : Int32) (x4 : Int32) (t0 : Nat) (t1 : Int32) (t2 : Int32) (h : mh_H) (H : Heap) (locs : List Loc) (ls : Array Slot), mh_W D ks L (mh_A L s.heap.size) s.heap h H locs → lv_has ls 5 [(0, .ref o0), (1, .int x1), (2, .int x2), (3, .int x3), (4, .int x4)] → k115 o0 x1 x2 x3 x4 t0 t1 t2 h = some h' → W p l e (mh_rm 0) s m args below meth c H locs 0 0 (MQ below (mh_Qv D ks L s.heap.size h') args s 0 0 (mh_A L s.heap.size)) (F0 m 115 ls [.int t2, .int t1, .ref t0])) :
    ∀ (o0 : Nat) (x1 : Int32) (x2 : Int32) (x3 : Int32) (x4 : Int32) (t0 : Nat) (t1 : Int32) (h : mh_H) (H : Heap) (locs : List Loc) (ls : Array Slot), mh_W D ks L (mh_A L s.heap.size) s.heap h H locs → lv_has ls 5 [(0, .ref o0), (1, .int x1), (2, .int x2), (3, .int x3), (4, .int x4)] → f_X12_keepNeeded_b110 k115 o0 x1 x2 x3 x4 t0 t1 h = some h' → W p l e (mh_rm 0) s m args below meth c H locs 0 0 (MQ below (mh_Qv D ks L s.heap.size h') args s 0 0 (mh_A L s.heap.size)) (F0 m 110 ls [.int t1, .ref t0]) := by
  intro o0 x1 x2 x3 x4 t0 t1 h H locs ls wd hl hX
  have hx := cx.1.1
  have hb := cx.1.2.1
  unfold f_X12_keepNeeded_b110 at hX
  refine lv_iconst (v := 1) hx hb dX12_keepNeeded_110 (by decide) ?_
  refine lv_goto (tgt := 115) hx hb dX12_keepNeeded_111 rfl ?_
  exact hk115 _ _ _ _ _ _ _ _ h _ _ ls wd (lv_sub hl [0, 1, 2, 3, 4] rfl) hX
set_option maxRecDepth 100000 in
set_option maxHeartbeats 4000000 in
theorem w_X12_keepNeeded_b74 {p : Program} {l : Launch} {e : Env} {s : State} {m : MethodId} {args : Array Value} {below : List Frame} {meth : Method} {c : Code} {D : va_G} {ks : Nat → ClassId} {L : List Nat} {h' : mh_H} (k122 : Nat → Int32 → Int32 → mh_H → Option mh_H) (cx : mh_C p m c cX12_keepNeeded 5 s args RX12 meth D ks (mh_A L s.heap.size)) (hr : meth.sig.returnType = none)
    (hk122 : ∀ (o0 : Nat) (x1 : Int32) (x2 : Int32) (h : mh_H) (H : Heap) (locs : List Loc) (ls : Array Slot), mh_W D ks L (mh_A L s.heap.size) s.heap h H locs → lv_has ls 5 [(0, .ref o0), (1, .int x1), (2, .int x2)] → k122 o0 x1 x2 h = some h' → W p l e (mh_rm 0) s m args below meth c H locs 0 0 (MQ below (mh_Qv D ks L s.heap.size h') args s 0 0 (mh_A L s.heap.size)) (F0 m 122 ls [])) :
    ∀ n : Nat, ∀ (o0 : Nat) (x1 : Int32) (x2 : Int32) (x3 : Int32) (x4 : Int32) (h : mh_H) (H : Heap) (locs : List Loc) (ls : Array Slot), mh_W D ks L (mh_A L s.heap.size) s.heap h H locs → lv_has ls 5 [(0, .ref o0), (1, .int x1), (2, .int x2), (3, .int x3), (4, .int x4)] → f_X12_keepNeeded_b74 k122 n o0 x1 x2 x3 x4 h = some h' → W p l e (mh_rm 0) s m args below meth c H locs 0 0 (MQ below (mh_Qv D ks L s.heap.size h') args s 0 0 (mh_A L s.heap.size)) (F0 m 74 ls []) := by
  intro n
  induction n with
  | zero =>
    intro o0 x1 x2 x3 x4 h H locs ls wd hl hX
    cases hX
  | succ n ih =>
    intro o0 x1 x2 x3 x4 h H locs ls wd hl hX
    have hx := cx.1.1
    have hb := cx.1.2.1
    rw [f_X12_keepNeeded_b74] at hX
    refine lv_iload hx hb dX12_keepNeeded_74 (lv_at hl 4 rfl) ?_
    refine lv_sipush (v := 300) hx hb dX12_keepNeeded_76 (by decide) ?_
    refine lv_icmp_gt (tgt := 122) hx hb dX12_keepNeeded_79 rfl (fun hc => (fun hX => ?_) ((mh_if hX).1 hc)) (fun hc => (fun hX => ?_) ((mh_if hX).2 hc))
    · exact hk122 _ _ _ h _ _ ls wd (lv_sub hl [0, 1, 2] rfl) hX
    · refine lv_aload_n hx hb dX12_keepNeeded_82 rfl (lv_at hl 0 rfl) ?_
      refine mh_getR cx wd fl_X12_81 dX12_keepNeeded_83 hX (fun a6 hX => ?_)
      refine lv_iload hx hb dX12_keepNeeded_86 (lv_at hl 4 rfl) ?_
      refine lv_aload_n hx hb dX12_keepNeeded_88 rfl (lv_at hl 0 rfl) ?_
      refine mh_getR cx wd fl_X12_81 dX12_keepNeeded_89 hX (fun a7 hX => ?_)
      refine lv_iload hx hb dX12_keepNeeded_92 (lv_at hl 4 rfl) ?_
      refine mh_zald cx wd dX12_keepNeeded_94 hX (fun v8 hX => ?_)
      refine lv_if_ne (tgt := 110) hx hb dX12_keepNeeded_95 rfl (fun hc => (fun hX => ?_) ((mh_if hX).2 hc)) (fun hc => (fun hX => ?_) ((mh_if hX).1 hc))
      · exact w_X12_keepNeeded_b110 (f_X12_keepNeeded_b115 (f_X12_keepNeeded_b74 k122 n)) cx hr (w_X12_keepNeeded_b115 (f_X12_keepNeeded_b74 k122 n) cx hr ih) _ _ _ _ _ _ _ h _ _ ls wd (lv_sub hl [0, 1, 2, 3, 4] rfl) hX
      · refine lv_aload_n hx hb dX12_keepNeeded_98 rfl (lv_at hl 0 rfl) ?_
        refine mh_getR cx wd fl_X12_81 dX12_keepNeeded_99 hX (fun a9 hX => ?_)
        refine lv_iload hx hb dX12_keepNeeded_102 (lv_at hl 4 rfl) ?_
        refine lv_iload_n hx hb dX12_keepNeeded_104 rfl (lv_at hl 3 rfl) ?_
        refine lv_isub hx hb dX12_keepNeeded_105 ?_
        refine mh_zald cx wd dX12_keepNeeded_106 hX (fun v10 hX => ?_)
        refine lv_if_eq (tgt := 114) hx hb dX12_keepNeeded_107 rfl (fun hc => (fun hX => ?_) ((mh_if hX).1 hc)) (fun hc => (fun hX => ?_) ((mh_if hX).2 hc))
        · refine lv_iconst (v := 0) hx hb dX12_keepNeeded_114 (by decide) ?_
          exact w_X12_keepNeeded_b115 (f_X12_keepNeeded_b74 k122 n) cx hr ih _ _ _ _ _ _ _ _ h _ _ ls wd (lv_sub hl [0, 1, 2, 3, 4] rfl) hX
        · exact w_X12_keepNeeded_b110 (f_X12_keepNeeded_b115 (f_X12_keepNeeded_b74 k122 n)) cx hr (w_X12_keepNeeded_b115 (f_X12_keepNeeded_b74 k122 n) cx hr ih) _ _ _ _ _ _ _ h _ _ ls wd (lv_sub hl [0, 1, 2, 3, 4] rfl) hX
set_option maxRecDepth 100000 in
set_option maxHeartbeats 4000000 in
theorem w_X12_keepNeeded_b128 {p : Program} {l : Launch} {e : Env} {s : State} {m : MethodId} {args : Array Value} {below : List Frame} {meth : Method} {c : Code} {D : va_G} {ks : Nat → ClassId} {L : List Nat} {h' : mh_H} (cx : mh_C p m c cX12_keepNeeded 5 s args RX12 meth D ks (mh_A L s.heap.size)) (hr : meth.sig.returnType = none) :
    ∀ (o0 : Nat) (x1 : Int32) (h : mh_H) (H : Heap) (locs : List Loc) (ls : Array Slot), mh_W D ks L (mh_A L s.heap.size) s.heap h H locs → lv_has ls 5 [(0, .ref o0), (1, .int x1)] → f_X12_keepNeeded_b128 o0 x1 h = some h' → W p l e (mh_rm 0) s m args below meth c H locs 0 0 (MQ below (mh_Qv D ks L s.heap.size h') args s 0 0 (mh_A L s.heap.size)) (F0 m 128 ls []) := by
  intro o0 x1 h H locs ls wd hl hX
  have hx := cx.1.1
  have hb := cx.1.2.1
  unfold f_X12_keepNeeded_b128 at hX
  refine lv_aload_n hx hb dX12_keepNeeded_128 rfl (lv_at hl 0 rfl) ?_
  refine lv_iload_n hx hb dX12_keepNeeded_129 rfl (lv_at hl 1 rfl) ?_
  refine mh_putI cx wd fp_X12_181 dX12_keepNeeded_130 hX (fun h11 H locs wd hX => ?_)
  exact mh_vret cx wd hr hX dX12_keepNeeded_133
set_option maxRecDepth 100000 in
set_option maxHeartbeats 4000000 in
theorem w_X12_keepNeeded_b34 {p : Program} {l : Launch} {e : Env} {s : State} {m : MethodId} {args : Array Value} {below : List Frame} {meth : Method} {c : Code} {D : va_G} {ks : Nat → ClassId} {L : List Nat} {h' : mh_H} (cx : mh_C p m c cX12_keepNeeded 5 s args RX12 meth D ks (mh_A L s.heap.size)) (hr : meth.sig.returnType = none) :
    ∀ n : Nat, ∀ (o0 : Nat) (x1 : Int32) (x2 : Int32) (h : mh_H) (H : Heap) (locs : List Loc) (ls : Array Slot), mh_W D ks L (mh_A L s.heap.size) s.heap h H locs → lv_has ls 5 [(0, .ref o0), (1, .int x1), (2, .int x2)] → f_X12_keepNeeded_b34 n o0 x1 x2 h = some h' → W p l e (mh_rm 0) s m args below meth c H locs 0 0 (MQ below (mh_Qv D ks L s.heap.size h') args s 0 0 (mh_A L s.heap.size)) (F0 m 34 ls []) := by
  intro n
  induction n with
  | zero =>
    intro o0 x1 x2 h H locs ls wd hl hX
    cases hX
  | succ n ih =>
    intro o0 x1 x2 h H locs ls wd hl hX
    have hx := cx.1.1
    have hb := cx.1.2.1
    rw [f_X12_keepNeeded_b34] at hX
    refine lv_iload_n hx hb dX12_keepNeeded_34 rfl (lv_at hl 2 rfl) ?_
    refine lv_aload_n hx hb dX12_keepNeeded_35 rfl (lv_at hl 0 rfl) ?_
    refine mh_getI cx wd fl_X12_181 dX12_keepNeeded_36 hX (fun v12 hX => ?_)
    refine lv_icmp_ge (tgt := 128) hx hb dX12_keepNeeded_39 rfl (fun hc => (fun hX => ?_) ((mh_if hX).1 hc)) (fun hc => (fun hX => ?_) ((mh_if hX).2 hc))
    · exact w_X12_keepNeeded_b128 cx hr _ _ h _ _ ls wd (lv_sub hl [0, 1] rfl) hX
    · refine lv_aload_n hx hb dX12_keepNeeded_42 rfl (lv_at hl 0 rfl) ?_
      refine mh_getR cx wd fl_X12_45 dX12_keepNeeded_43 hX (fun a13 hX => ?_)
      refine lv_iload_n hx hb dX12_keepNeeded_46 rfl (lv_at hl 2 rfl) ?_
      refine mh_iald cx wd dX12_keepNeeded_47 hX (fun v14 hX => ?_)
      refine lv_istore_n (lv' := [(3, .int v14), (0, .ref o0), (1, .int x1), (2, .int x2)]) hx hb dX12_keepNeeded_48 rfl hl (Nat.le_of_ble_eq_true rfl) rfl (fun ls hl => ?_)
      refine lv_aload_n hx hb dX12_keepNeeded_49 rfl (lv_at hl 1 rfl) ?_
      refine mh_getR cx wd fl_X12_81 dX12_keepNeeded_50 hX (fun a15 hX => ?_)
      refine lv_iload_n hx hb dX12_keepNeeded_53 rfl (lv_at hl 0 rfl) ?_
      refine mh_zald cx wd dX12_keepNeeded_54 hX (fun v16 hX => ?_)
      refine lv_if_eq (tgt := 61) hx hb dX12_keepNeeded_55 rfl (fun hc => (fun hX => ?_) ((mh_if hX).1 hc)) (fun hc => (fun hX => ?_) ((mh_if hX).2 hc))
      · refine lv_aload_n hx hb dX12_keepNeeded_61 rfl (lv_at hl 1 rfl) ?_
        refine mh_getR cx wd fl_X12_45 dX12_keepNeeded_62 hX (fun a17 hX => ?_)
        refine lv_iload_n hx hb dX12_keepNeeded_65 rfl (lv_at hl 2 rfl) ?_
        refine lv_iload_n hx hb dX12_keepNeeded_66 rfl (lv_at hl 0 rfl) ?_
        refine mh_iast cx wd dX12_keepNeeded_67 hX (fun h18 H locs wd hX => ?_)
        obtain ⟨v19, ev19, hX⟩ := mh_nmx hX
        refine lv_iinc (k := 2) (v := v19) (lv' := [(1, .int v19), (3, .int v14), (0, .ref o0), (2, .int x2)]) hx hb dX12_keepNeeded_68 hl rfl ev19 (Nat.le_of_ble_eq_true rfl) rfl (fun ls hl => ?_)
        refine lv_iload_n hx hb dX12_keepNeeded_71 rfl (lv_at hl 1 rfl) ?_
        refine lv_istore (lv' := [(4, .int v14), (1, .int v19), (3, .int v14), (0, .ref o0), (2, .int x2)]) hx hb dX12_keepNeeded_72 hl (Nat.le_of_ble_eq_true rfl) rfl (fun ls hl => ?_)
        exact w_X12_keepNeeded_b74 (f_X12_keepNeeded_b122 (f_X12_keepNeeded_b34 n)) cx hr (w_X12_keepNeeded_b122 (f_X12_keepNeeded_b34 n) cx hr ih) mh_fu _ _ _ _ _ h18 _ _ ls wd (lv_sub hl [3, 1, 4, 2, 0] rfl) hX
      · refine lv_goto (tgt := 122) hx hb dX12_keepNeeded_58 rfl ?_
        exact w_X12_keepNeeded_b122 (f_X12_keepNeeded_b34 n) cx hr ih _ _ _ h _ _ ls wd (lv_sub hl [1, 2, 3] rfl) hX
set_option maxRecDepth 100000 in
set_option maxHeartbeats 4000000 in
theorem w_X12_keepNeeded_b30 {p : Program} {l : Launch} {e : Env} {s : State} {m : MethodId} {args : Array Value} {below : List Frame} {meth : Method} {c : Code} {D : va_G} {ks : Nat → ClassId} {L : List Nat} {h' : mh_H} (cx : mh_C p m c cX12_keepNeeded 5 s args RX12 meth D ks (mh_A L s.heap.size)) (hr : meth.sig.returnType = none) :
    ∀ (o0 : Nat) (h : mh_H) (H : Heap) (locs : List Loc) (ls : Array Slot), mh_W D ks L (mh_A L s.heap.size) s.heap h H locs → lv_has ls 5 [(0, .ref o0)] → f_X12_keepNeeded_b30 o0 h = some h' → W p l e (mh_rm 0) s m args below meth c H locs 0 0 (MQ below (mh_Qv D ks L s.heap.size h') args s 0 0 (mh_A L s.heap.size)) (F0 m 30 ls []) := by
  intro o0 h H locs ls wd hl hX
  have hx := cx.1.1
  have hb := cx.1.2.1
  unfold f_X12_keepNeeded_b30 at hX
  refine lv_iconst (v := 0) hx hb dX12_keepNeeded_30 (by decide) ?_
  refine mh_topi hX (fun v20 hX => ?_)
  refine lv_istore_n (lv' := [(1, .int v20), (0, .ref o0)]) hx hb dX12_keepNeeded_31 rfl hl (Nat.le_of_ble_eq_true rfl) rfl (fun ls hl => ?_)
  refine lv_iconst (v := 0) hx hb dX12_keepNeeded_32 (by decide) ?_
  refine mh_topi hX (fun v21 hX => ?_)
  refine lv_istore_n (lv' := [(2, .int v21), (1, .int v20), (0, .ref o0)]) hx hb dX12_keepNeeded_33 rfl hl (Nat.le_of_ble_eq_true rfl) rfl (fun ls hl => ?_)
  exact w_X12_keepNeeded_b34 cx hr mh_fu _ _ _ h _ _ ls wd (lv_sub hl [2, 1, 0] rfl) hX
set_option maxRecDepth 100000 in
set_option maxHeartbeats 4000000 in
theorem w_X12_keepNeeded_b2 {p : Program} {l : Launch} {e : Env} {s : State} {m : MethodId} {args : Array Value} {below : List Frame} {meth : Method} {c : Code} {D : va_G} {ks : Nat → ClassId} {L : List Nat} {h' : mh_H} (cx : mh_C p m c cX12_keepNeeded 5 s args RX12 meth D ks (mh_A L s.heap.size)) (hr : meth.sig.returnType = none) :
    ∀ n : Nat, ∀ (o0 : Nat) (x1 : Int32) (h : mh_H) (H : Heap) (locs : List Loc) (ls : Array Slot), mh_W D ks L (mh_A L s.heap.size) s.heap h H locs → lv_has ls 5 [(0, .ref o0), (1, .int x1)] → f_X12_keepNeeded_b2 n o0 x1 h = some h' → W p l e (mh_rm 0) s m args below meth c H locs 0 0 (MQ below (mh_Qv D ks L s.heap.size h') args s 0 0 (mh_A L s.heap.size)) (F0 m 2 ls []) := by
  intro n
  induction n with
  | zero =>
    intro o0 x1 h H locs ls wd hl hX
    cases hX
  | succ n ih =>
    intro o0 x1 h H locs ls wd hl hX
    have hx := cx.1.1
    have hb := cx.1.2.1
    rw [f_X12_keepNeeded_b2] at hX
    refine lv_iload_n hx hb dX12_keepNeeded_2 rfl (lv_at hl 1 rfl) ?_
    refine lv_sipush (v := 300) hx hb dX12_keepNeeded_3 (by decide) ?_
    refine lv_icmp_gt (tgt := 30) hx hb dX12_keepNeeded_6 rfl (fun hc => (fun hX => ?_) ((mh_if hX).1 hc)) (fun hc => (fun hX => ?_) ((mh_if hX).2 hc))
    · exact w_X12_keepNeeded_b30 cx hr _ h _ _ ls wd (lv_sub hl [0] rfl) hX
    · refine lv_aload_n hx hb dX12_keepNeeded_9 rfl (lv_at hl 0 rfl) ?_
      refine mh_getR cx wd fl_X12_81 dX12_keepNeeded_10 hX (fun a22 hX => ?_)
      refine lv_iload_n hx hb dX12_keepNeeded_13 rfl (lv_at hl 1 rfl) ?_
      refine lv_iload_n hx hb dX12_keepNeeded_14 rfl (lv_at hl 1 rfl) ?_
      refine lv_if_ne (tgt := 22) hx hb dX12_keepNeeded_15 rfl (fun hc => (fun hX => ?_) ((mh_if hX).2 hc)) (fun hc => (fun hX => ?_) ((mh_if hX).1 hc))
      · refine lv_iconst (v := 0) hx hb dX12_keepNeeded_22 (by decide) ?_
        exact w_X12_keepNeeded_b23 (f_X12_keepNeeded_b2 n) cx hr ih _ _ _ _ _ h _ _ ls wd (lv_sub hl [0, 1] rfl) hX
      · refine lv_iconst (v := 1) hx hb dX12_keepNeeded_18 (by decide) ?_
        refine lv_goto (tgt := 23) hx hb dX12_keepNeeded_19 rfl ?_
        exact w_X12_keepNeeded_b23 (f_X12_keepNeeded_b2 n) cx hr ih _ _ _ _ _ h _ _ ls wd (lv_sub hl [0, 1] rfl) hX
set_option maxRecDepth 100000 in
set_option maxHeartbeats 4000000 in
theorem w_X12_keepNeeded_e {p : Program} {l : Launch} {e : Env} {s : State} {m : MethodId} {args : Array Value} {below : List Frame} {meth : Method} {c : Code} {D : va_G} {ks : Nat → ClassId} {L : List Nat} {h' : mh_H} (cx : mh_C p m c cX12_keepNeeded 5 s args RX12 meth D ks (mh_A L s.heap.size)) (hr : meth.sig.returnType = none) :
    ∀ (o0 : Nat) (h : mh_H) (H : Heap) (locs : List Loc) (ls : Array Slot), mh_W D ks L (mh_A L s.heap.size) s.heap h H locs → lv_has ls 5 [(0, .ref o0)] → f_X12_keepNeeded_e o0 h = some h' → W p l e (mh_rm 0) s m args below meth c H locs 0 0 (MQ below (mh_Qv D ks L s.heap.size h') args s 0 0 (mh_A L s.heap.size)) (F0 m 0 ls []) := by
  intro o0 h H locs ls wd hl hX
  have hx := cx.1.1
  have hb := cx.1.2.1
  unfold f_X12_keepNeeded_e at hX
  refine lv_iconst (v := 0) hx hb dX12_keepNeeded_0 (by decide) ?_
  refine mh_topi hX (fun v23 hX => ?_)
  refine lv_istore_n (lv' := [(1, .int v23), (0, .ref o0)]) hx hb dX12_keepNeeded_1 rfl hl (Nat.le_of_ble_eq_true rfl) rfl (fun ls hl => ?_)
  exact w_X12_keepNeeded_b2 cx hr mh_fu _ _ h _ _ ls wd (lv_sub hl [1, 0] rfl) hX
set_option maxRecDepth 100000 in
theorem c_X12_keepNeeded {l : Launch} {L : List Nat} {h h' : mh_H} {o0 : Nat} (hX : f_X12_keepNeeded_e o0 h = some h') : mh_MV l yX12_keepNeeded (Cond.code yX12_keepNeeded cX12_keepNeeded 5 none :: mh_TB) (mh_rm 0) [.ref o0] L h h' :=
  mh_of (mc := 0) (ms := 0) (Qc := fun D ks sz => mh_Qv D ks L sz h') (plainFor_of_name (by decide)) (Nat.le_of_ble_eq_true rfl) (fun p e s m below meth c D ks ls hr cx wd hl => by
    have hl : lv_has ls 5 [(0, .ref o0)] := hl
    exact w_X12_keepNeeded_e cx hr o0 h _ _ ls wd hl hX)
def f_X12_take_b48 (h : mh_H) : Option mh_H :=
  some h
def f_X12_take_b15 : Nat → Nat → Int32 → Int32 → mh_H → Option mh_H
  | 0, _, _, _, _ => none
  | n + 1, o0, x1, x2, h =>
    (mh_gI h o0 12 14).bind fun v1 =>
    if v1 ≤ x2 then (
    f_X12_take_b48 h) else
    (mh_gR h o0 12 13).bind fun a2 =>
    (mh_gR h o0 12 1).bind fun a3 =>
    mh_b2 (f_X12_mintAt_e x1 h) fun v5 h4 =>
    (mh_aI h4 a3 0 ((v5 + (1 : Int32)) + x2)).bind fun v6 =>
    (mh_sI h4 a2 x2 v6).bind fun h7 =>
    mh_nm (x2 + Int32.ofInt (1)) fun v8 =>
    f_X12_take_b15 n o0 x1 v8 h7
def f_X12_take_e (o0 : Nat) (x1 : Int32) (h : mh_H) : Option mh_H :=
  (mh_gR h o0 12 1).bind fun a9 =>
  mh_b2 (f_X12_mintAt_e x1 h) fun v11 h10 =>
  (mh_aI h10 a9 0 v11).bind fun v12 =>
  (mh_pI h10 o0 12 14 v12).bind fun h13 =>
  mh_nm (0 : Int32) fun v14 =>
  f_X12_take_b15 mh_fu o0 x1 v14 h13
set_option maxRecDepth 100000 in
set_option maxHeartbeats 4000000 in
theorem w_X12_take_b48 {p : Program} {l : Launch} {e : Env} {s : State} {m : MethodId} {args : Array Value} {below : List Frame} {meth : Method} {c : Code} {D : va_G} {ks : Nat → ClassId} {L : List Nat} {h' : mh_H} (cx : mh_C p m c cX12_take 3 s args RX12 meth D ks (mh_A L s.heap.size)) (hr : meth.sig.returnType = none) :
    ∀ (h : mh_H) (H : Heap) (locs : List Loc) (ls : Array Slot), mh_W D ks L (mh_A L s.heap.size) s.heap h H locs → lv_has ls 3 [] → f_X12_take_b48  h = some h' → W p l e (mh_rm 1) s m args below meth c H locs 0 0 (MQ below (mh_Qv D ks L s.heap.size h') args s 0 0 (mh_A L s.heap.size)) (F0 m 48 ls []) := by
  intro  h H locs ls wd hl hX
  have hx := cx.1.1
  have hb := cx.1.2.1
  unfold f_X12_take_b48 at hX
  exact mh_vret cx wd hr hX dX12_take_48
set_option maxRecDepth 100000 in
set_option maxHeartbeats 4000000 in
theorem w_X12_take_b15 {p : Program} {l : Launch} {e : Env} {s : State} {m : MethodId} {args : Array Value} {below : List Frame} {meth : Method} {c : Code} {D : va_G} {ks : Nat → ClassId} {L : List Nat} {h' : mh_H} (cx : mh_C p m c cX12_take 3 s args RX12 meth D ks (mh_A L s.heap.size)) (hr : meth.sig.returnType = none) :
    ∀ n : Nat, ∀ (o0 : Nat) (x1 : Int32) (x2 : Int32) (h : mh_H) (H : Heap) (locs : List Loc) (ls : Array Slot), mh_W D ks L (mh_A L s.heap.size) s.heap h H locs → lv_has ls 3 [(0, .ref o0), (1, .int x1), (2, .int x2)] → f_X12_take_b15 n o0 x1 x2 h = some h' → W p l e (mh_rm 1) s m args below meth c H locs 0 0 (MQ below (mh_Qv D ks L s.heap.size h') args s 0 0 (mh_A L s.heap.size)) (F0 m 15 ls []) := by
  intro n
  induction n with
  | zero =>
    intro o0 x1 x2 h H locs ls wd hl hX
    cases hX
  | succ n ih =>
    intro o0 x1 x2 h H locs ls wd hl hX
    have hx := cx.1.1
    have hb := cx.1.2.1
    rw [f_X12_take_b15] at hX
    refine lv_iload_n hx hb dX12_take_15 rfl (lv_at hl 2 rfl) ?_
    refine lv_aload_n hx hb dX12_take_16 rfl (lv_at hl 0 rfl) ?_
    refine mh_getI cx wd fl_X12_181 dX12_take_17 hX (fun v1 hX => ?_)
    refine lv_icmp_ge (tgt := 48) hx hb dX12_take_20 rfl (fun hc => (fun hX => ?_) ((mh_if hX).1 hc)) (fun hc => (fun hX => ?_) ((mh_if hX).2 hc))
    · exact w_X12_take_b48 cx hr  h _ _ ls wd (lv_sub hl [] rfl) hX
    · refine lv_aload_n hx hb dX12_take_23 rfl (lv_at hl 0 rfl) ?_
      refine mh_getR cx wd fl_X12_45 dX12_take_24 hX (fun a2 hX => ?_)
      refine lv_iload_n hx hb dX12_take_27 rfl (lv_at hl 2 rfl) ?_
      refine lv_aload_n hx hb dX12_take_28 rfl (lv_at hl 0 rfl) ?_
      refine mh_getR cx wd fl_X12_9 dX12_take_29 hX (fun a3 hX => ?_)
      refine lv_iload_n hx hb dX12_take_32 rfl (lv_at hl 1 rfl) ?_
      refine mh_callSI cx wd [.int x1] yw_X12_mintAt sw_X12_115 rfl hl.1 rfl (Nat.le_of_ble_eq_true rfl) dX12_take_33 ⟨Nat.le_of_ble_eq_true rfl, Nat.le_of_ble_eq_true rfl⟩ ⟨Nat.le_refl _, Nat.le_refl _⟩ (fun _ _ q => c_X12_mintAt q) hX (fun v5 h4 H locs wd hX => ?_)
      refine lv_iconst (v := 1) hx hb dX12_take_36 (by decide) ?_
      refine lv_iadd hx hb dX12_take_37 ?_
      refine lv_iload_n hx hb dX12_take_38 rfl (lv_at hl 2 rfl) ?_
      refine lv_iadd hx hb dX12_take_39 ?_
      refine mh_iald cx wd dX12_take_40 hX (fun v6 hX => ?_)
      refine mh_iast cx wd dX12_take_41 hX (fun h7 H locs wd hX => ?_)
      obtain ⟨v8, ev8, hX⟩ := mh_nmx hX
      refine lv_iinc (k := 2) (v := v8) (lv' := [(2, .int v8), (0, .ref o0), (1, .int x1)]) hx hb dX12_take_42 hl rfl ev8 (Nat.le_of_ble_eq_true rfl) rfl (fun ls hl => ?_)
      refine lv_goto (tgt := 15) hx hb dX12_take_45 rfl ?_
      exact ih _ _ _ h7 _ _ ls wd (lv_sub hl [1, 2, 0] rfl) hX
set_option maxRecDepth 100000 in
set_option maxHeartbeats 4000000 in
theorem w_X12_take_e {p : Program} {l : Launch} {e : Env} {s : State} {m : MethodId} {args : Array Value} {below : List Frame} {meth : Method} {c : Code} {D : va_G} {ks : Nat → ClassId} {L : List Nat} {h' : mh_H} (cx : mh_C p m c cX12_take 3 s args RX12 meth D ks (mh_A L s.heap.size)) (hr : meth.sig.returnType = none) :
    ∀ (o0 : Nat) (x1 : Int32) (h : mh_H) (H : Heap) (locs : List Loc) (ls : Array Slot), mh_W D ks L (mh_A L s.heap.size) s.heap h H locs → lv_has ls 3 [(0, .ref o0), (1, .int x1)] → f_X12_take_e o0 x1 h = some h' → W p l e (mh_rm 1) s m args below meth c H locs 0 0 (MQ below (mh_Qv D ks L s.heap.size h') args s 0 0 (mh_A L s.heap.size)) (F0 m 0 ls []) := by
  intro o0 x1 h H locs ls wd hl hX
  have hx := cx.1.1
  have hb := cx.1.2.1
  unfold f_X12_take_e at hX
  refine lv_aload_n hx hb dX12_take_0 rfl (lv_at hl 0 rfl) ?_
  refine lv_aload_n hx hb dX12_take_1 rfl (lv_at hl 0 rfl) ?_
  refine mh_getR cx wd fl_X12_9 dX12_take_2 hX (fun a9 hX => ?_)
  refine lv_iload_n hx hb dX12_take_5 rfl (lv_at hl 1 rfl) ?_
  refine mh_callSI cx wd [.int x1] yw_X12_mintAt sw_X12_115 rfl hl.1 rfl (Nat.le_of_ble_eq_true rfl) dX12_take_6 ⟨Nat.le_of_ble_eq_true rfl, Nat.le_of_ble_eq_true rfl⟩ ⟨Nat.le_refl _, Nat.le_refl _⟩ (fun _ _ q => c_X12_mintAt q) hX (fun v11 h10 H locs wd hX => ?_)
  refine mh_iald cx wd dX12_take_9 hX (fun v12 hX => ?_)
  refine mh_putI cx wd fp_X12_181 dX12_take_10 hX (fun h13 H locs wd hX => ?_)
  refine lv_iconst (v := 0) hx hb dX12_take_13 (by decide) ?_
  refine mh_topi hX (fun v14 hX => ?_)
  refine lv_istore_n (lv' := [(2, .int v14), (0, .ref o0), (1, .int x1)]) hx hb dX12_take_14 rfl hl (Nat.le_of_ble_eq_true rfl) rfl (fun ls hl => ?_)
  exact w_X12_take_b15 cx hr mh_fu _ _ _ h13 _ _ ls wd (lv_sub hl [1, 2, 0] rfl) hX
set_option maxRecDepth 100000 in
theorem c_X12_take {l : Launch} {L : List Nat} {h h' : mh_H} {o0 : Nat} {x1 : Int32} (hX : f_X12_take_e o0 x1 h = some h') : mh_MV l yX12_take (Cond.code yX12_take cX12_take 3 none :: mh_TB) (mh_rm 1) [.ref o0, .int x1] L h h' :=
  mh_of (mc := 0) (ms := 0) (Qc := fun D ks sz => mh_Qv D ks L sz h') (plainFor_of_name (by decide)) (Nat.le_of_ble_eq_true rfl) (fun p e s m below meth c D ks ls hr cx wd hl => by
    have hl : lv_has ls 3 [(0, .ref o0), (1, .int x1)] := hl
    exact w_X12_take_e cx hr o0 x1 h _ _ ls wd hl hX)
def f_X12_needed_b89 (k34 : Nat → Int32 → Int32 → Int32 → Int32 → mh_H → Option (Int32 × mh_H)) (o0 : Nat) (x1 : Int32) (x2 : Int32) (x3 : Int32) (x4 : Int32) (h : mh_H) : Option (Int32 × mh_H) :=
  mh_nm (x4 + Int32.ofInt (1)) fun v1 =>
  k34 o0 x1 x2 x3 v1 h
def f_X12_needed_b95 (x2 : Int32) (h : mh_H) : Option (Int32 × mh_H) :=
  some (x2, h)
def f_X12_needed_b34 : Nat → Nat → Int32 → Int32 → Int32 → Int32 → mh_H → Option (Int32 × mh_H)
  | 0, _, _, _, _, _, _ => none
  | n + 1, o0, x1, x2, x3, x4, h =>
    (mh_gR h o0 12 1).bind fun a2 =>
    mh_b2 (f_X12_mintAt_e x1 h) fun v4 h3 =>
    (mh_aI h3 a2 0 v4).bind fun v5 =>
    if v5 ≤ x4 then (
    f_X12_needed_b95 x2 h3) else
    (mh_gI h3 o0 12 14).bind fun v6 =>
    if v6 ≤ x3 then (
    f_X12_needed_b89 (f_X12_needed_b34 n) o0 x1 x2 x3 x4 h3) else
    (mh_gR h3 o0 12 13).bind fun a7 =>
    (mh_aI h3 a7 0 x3).bind fun v8 =>
    (mh_gR h3 o0 12 1).bind fun a9 =>
    mh_b2 (f_X12_mintAt_e x1 h3) fun v11 h10 =>
    (mh_aI h10 a9 0 ((v11 + (1 : Int32)) + x4)).bind fun v12 =>
    if v8 = v12 then (
    mh_nm (x2 ||| ((1 : Int32) <<< (x4 &&& 31))) fun v13 =>
    mh_nm (x3 + Int32.ofInt (1)) fun v14 =>
    f_X12_needed_b89 (f_X12_needed_b34 n) o0 x1 v13 v14 x4 h10) else
    f_X12_needed_b89 (f_X12_needed_b34 n) o0 x1 x2 x3 x4 h10
def f_X12_needed_e (o0 : Nat) (x1 : Int32) (h : mh_H) : Option (Int32 × mh_H) :=
  (mh_pI h o0 12 0 (0 : Int32)).bind fun h15 =>
  mh_b2 (f_X12_isMint_e x1 h15) fun v17 h16 =>
  if v17 = 0 then (
  mh_b2 (mh_cal h16 o0 12 (f_X12_fail_e o0 (1 : Int32) h16)) fun v24 h23 =>
  some (v24, h23)) else
  (mh_cal h16 o0 12 (f_X12_take_e o0 x1 h16)).bind fun h18 =>
  (mh_cal h18 o0 12 (f_X12_keepNeeded_e o0 h18)).bind fun h19 =>
  mh_nm (0 : Int32) fun v20 =>
  mh_nm (0 : Int32) fun v21 =>
  mh_nm (0 : Int32) fun v22 =>
  f_X12_needed_b34 mh_fu o0 x1 v20 v21 v22 h19
set_option maxRecDepth 100000 in
set_option maxHeartbeats 4000000 in
theorem w_X12_needed_b89 {p : Program} {l : Launch} {e : Env} {s : State} {m : MethodId} {args : Array Value} {below : List Frame} {meth : Method} {c : Code} {D : va_G} {ks : Nat → ClassId} {L : List Nat} {r : Int32} {h' : mh_H} (k34 : Nat → Int32 → Int32 → Int32 → Int32 → mh_H → Option (Int32 × mh_H)) (cx : mh_C p m c cX12_needed 5 s args RX12 meth D ks (mh_A L s.heap.size)) (hr : meth.sig.returnType = (some .int))
    (hk34 : ∀ (o0 : Nat) (x1 : Int32) (x2 : Int32) (x3 : Int32) (x4 : Int32) (h : mh_H) (H : Heap) (locs : List Loc) (ls : Array Slot), mh_W D ks L (mh_A L s.heap.size) s.heap h H locs → lv_has ls 5 [(0, .ref o0), (1, .int x1), (2, .int x2), (3, .int x3), (4, .int x4)] → k34 o0 x1 x2 x3 x4 h = some (r, h') → W p l e (mh_rm 2) s m args below meth c H locs 0 0 (MQ below (mh_Qi D ks L s.heap.size r h') args s 0 0 (mh_A L s.heap.size)) (F0 m 34 ls [])) :
    ∀ (o0 : Nat) (x1 : Int32) (x2 : Int32) (x3 : Int32) (x4 : Int32) (h : mh_H) (H : Heap) (locs : List Loc) (ls : Array Slot), mh_W D ks L (mh_A L s.heap.size) s.heap h H locs → lv_has ls 5 [(0, .ref o0), (1, .int x1), (2, .int x2), (3, .int x3), (4, .int x4)] → f_X12_needed_b89 k34 o0 x1 x2 x3 x4 h = some (r, h') → W p l e (mh_rm 2) s m args below meth c H locs 0 0 (MQ below (mh_Qi D ks L s.heap.size r h') args s 0 0 (mh_A L s.heap.size)) (F0 m 89 ls []) := by
  intro o0 x1 x2 x3 x4 h H locs ls wd hl hX
  have hx := cx.1.1
  have hb := cx.1.2.1
  unfold f_X12_needed_b89 at hX
  obtain ⟨v1, ev1, hX⟩ := mh_nmx hX
  refine lv_iinc (k := 4) (v := v1) (lv' := [(4, .int v1), (0, .ref o0), (1, .int x1), (2, .int x2), (3, .int x3)]) hx hb dX12_needed_89 hl rfl ev1 (Nat.le_of_ble_eq_true rfl) rfl (fun ls hl => ?_)
  refine lv_goto (tgt := 34) hx hb dX12_needed_92 rfl ?_
  exact hk34 _ _ _ _ _ h _ _ ls wd (lv_sub hl [1, 2, 3, 4, 0] rfl) hX
set_option maxRecDepth 100000 in
set_option maxHeartbeats 4000000 in
theorem w_X12_needed_b95 {p : Program} {l : Launch} {e : Env} {s : State} {m : MethodId} {args : Array Value} {below : List Frame} {meth : Method} {c : Code} {D : va_G} {ks : Nat → ClassId} {L : List Nat} {r : Int32} {h' : mh_H} (cx : mh_C p m c cX12_needed 5 s args RX12 meth D ks (mh_A L s.heap.size)) (hr : meth.sig.returnType = (some .int)) :
    ∀ (x2 : Int32) (h : mh_H) (H : Heap) (locs : List Loc) (ls : Array Slot), mh_W D ks L (mh_A L s.heap.size) s.heap h H locs → lv_has ls 5 [(2, .int x2)] → f_X12_needed_b95 x2 h = some (r, h') → W p l e (mh_rm 2) s m args below meth c H locs 0 0 (MQ below (mh_Qi D ks L s.heap.size r h') args s 0 0 (mh_A L s.heap.size)) (F0 m 95 ls []) := by
  intro x2 h H locs ls wd hl hX
  have hx := cx.1.1
  have hb := cx.1.2.1
  unfold f_X12_needed_b95 at hX
  refine lv_iload_n hx hb dX12_needed_95 rfl (lv_at hl 0 rfl) ?_
  exact mh_iret cx wd hr hX dX12_needed_96
set_option maxRecDepth 100000 in
set_option maxHeartbeats 4000000 in
theorem w_X12_needed_b34 {p : Program} {l : Launch} {e : Env} {s : State} {m : MethodId} {args : Array Value} {below : List Frame} {meth : Method} {c : Code} {D : va_G} {ks : Nat → ClassId} {L : List Nat} {r : Int32} {h' : mh_H} (cx : mh_C p m c cX12_needed 5 s args RX12 meth D ks (mh_A L s.heap.size)) (hr : meth.sig.returnType = (some .int)) :
    ∀ n : Nat, ∀ (o0 : Nat) (x1 : Int32) (x2 : Int32) (x3 : Int32) (x4 : Int32) (h : mh_H) (H : Heap) (locs : List Loc) (ls : Array Slot), mh_W D ks L (mh_A L s.heap.size) s.heap h H locs → lv_has ls 5 [(0, .ref o0), (1, .int x1), (2, .int x2), (3, .int x3), (4, .int x4)] → f_X12_needed_b34 n o0 x1 x2 x3 x4 h = some (r, h') → W p l e (mh_rm 2) s m args below meth c H locs 0 0 (MQ below (mh_Qi D ks L s.heap.size r h') args s 0 0 (mh_A L s.heap.size)) (F0 m 34 ls []) := by
  intro n
  induction n with
  | zero =>
    intro o0 x1 x2 x3 x4 h H locs ls wd hl hX
    cases hX
  | succ n ih =>
    intro o0 x1 x2 x3 x4 h H locs ls wd hl hX
    have hx := cx.1.1
    have hb := cx.1.2.1
    rw [f_X12_needed_b34] at hX
    refine lv_iload hx hb dX12_needed_34 (lv_at hl 4 rfl) ?_
    refine lv_aload_n hx hb dX12_needed_36 rfl (lv_at hl 0 rfl) ?_
    refine mh_getR cx wd fl_X12_9 dX12_needed_37 hX (fun a2 hX => ?_)
    refine lv_iload_n hx hb dX12_needed_40 rfl (lv_at hl 1 rfl) ?_
    refine mh_callSI cx wd [.int x1] yw_X12_mintAt sw_X12_115 rfl hl.1 rfl (Nat.le_of_ble_eq_true rfl) dX12_needed_41 ⟨Nat.le_of_ble_eq_true rfl, Nat.le_of_ble_eq_true rfl⟩ ⟨Nat.le_refl _, Nat.le_refl _⟩ (fun _ _ q => c_X12_mintAt q) hX (fun v4 h3 H locs wd hX => ?_)
    refine mh_iald cx wd dX12_needed_44 hX (fun v5 hX => ?_)
    refine lv_icmp_ge (tgt := 95) hx hb dX12_needed_45 rfl (fun hc => (fun hX => ?_) ((mh_if hX).1 hc)) (fun hc => (fun hX => ?_) ((mh_if hX).2 hc))
    · exact w_X12_needed_b95 cx hr _ h3 _ _ ls wd (lv_sub hl [2] rfl) hX
    · refine lv_iload_n hx hb dX12_needed_48 rfl (lv_at hl 3 rfl) ?_
      refine lv_aload_n hx hb dX12_needed_49 rfl (lv_at hl 0 rfl) ?_
      refine mh_getI cx wd fl_X12_181 dX12_needed_50 hX (fun v6 hX => ?_)
      refine lv_icmp_ge (tgt := 89) hx hb dX12_needed_53 rfl (fun hc => (fun hX => ?_) ((mh_if hX).1 hc)) (fun hc => (fun hX => ?_) ((mh_if hX).2 hc))
      · exact w_X12_needed_b89 (f_X12_needed_b34 n) cx hr ih _ _ _ _ _ h3 _ _ ls wd (lv_sub hl [0, 1, 2, 3, 4] rfl) hX
      · refine lv_aload_n hx hb dX12_needed_56 rfl (lv_at hl 0 rfl) ?_
        refine mh_getR cx wd fl_X12_45 dX12_needed_57 hX (fun a7 hX => ?_)
        refine lv_iload_n hx hb dX12_needed_60 rfl (lv_at hl 3 rfl) ?_
        refine mh_iald cx wd dX12_needed_61 hX (fun v8 hX => ?_)
        refine lv_aload_n hx hb dX12_needed_62 rfl (lv_at hl 0 rfl) ?_
        refine mh_getR cx wd fl_X12_9 dX12_needed_63 hX (fun a9 hX => ?_)
        refine lv_iload_n hx hb dX12_needed_66 rfl (lv_at hl 1 rfl) ?_
        refine mh_callSI cx wd [.int x1] yw_X12_mintAt sw_X12_115 rfl hl.1 rfl (Nat.le_of_ble_eq_true rfl) dX12_needed_67 ⟨Nat.le_of_ble_eq_true rfl, Nat.le_of_ble_eq_true rfl⟩ ⟨Nat.le_refl _, Nat.le_refl _⟩ (fun _ _ q => c_X12_mintAt q) hX (fun v11 h10 H locs wd hX => ?_)
        refine lv_iconst (v := 1) hx hb dX12_needed_70 (by decide) ?_
        refine lv_iadd hx hb dX12_needed_71 ?_
        refine lv_iload hx hb dX12_needed_72 (lv_at hl 4 rfl) ?_
        refine lv_iadd hx hb dX12_needed_74 ?_
        refine mh_iald cx wd dX12_needed_75 hX (fun v12 hX => ?_)
        refine lv_icmp_ne (tgt := 89) hx hb dX12_needed_76 rfl (fun hc => (fun hX => ?_) ((mh_if hX).2 hc)) (fun hc => (fun hX => ?_) ((mh_if hX).1 hc))
        · exact w_X12_needed_b89 (f_X12_needed_b34 n) cx hr ih _ _ _ _ _ h10 _ _ ls wd (lv_sub hl [0, 1, 2, 3, 4] rfl) hX
        · refine lv_iload_n hx hb dX12_needed_79 rfl (lv_at hl 2 rfl) ?_
          refine lv_iconst (v := 1) hx hb dX12_needed_80 (by decide) ?_
          refine lv_iload hx hb dX12_needed_81 (lv_at hl 4 rfl) ?_
          refine lv_ishl hx hb dX12_needed_83 ?_
          refine lv_ior hx hb dX12_needed_84 ?_
          refine mh_topi hX (fun v13 hX => ?_)
          refine lv_istore_n (lv' := [(2, .int v13), (0, .ref o0), (1, .int x1), (3, .int x3), (4, .int x4)]) hx hb dX12_needed_85 rfl hl (Nat.le_of_ble_eq_true rfl) rfl (fun ls hl => ?_)
          obtain ⟨v14, ev14, hX⟩ := mh_nmx hX
          refine lv_iinc (k := 3) (v := v14) (lv' := [(3, .int v14), (2, .int v13), (0, .ref o0), (1, .int x1), (4, .int x4)]) hx hb dX12_needed_86 hl rfl ev14 (Nat.le_of_ble_eq_true rfl) rfl (fun ls hl => ?_)
          exact w_X12_needed_b89 (f_X12_needed_b34 n) cx hr ih _ _ _ _ _ h10 _ _ ls wd (lv_sub hl [2, 3, 1, 0, 4] rfl) hX
set_option maxRecDepth 100000 in
set_option maxHeartbeats 4000000 in
theorem w_X12_needed_e {p : Program} {l : Launch} {e : Env} {s : State} {m : MethodId} {args : Array Value} {below : List Frame} {meth : Method} {c : Code} {D : va_G} {ks : Nat → ClassId} {L : List Nat} {r : Int32} {h' : mh_H} (cx : mh_C p m c cX12_needed 5 s args RX12 meth D ks (mh_A L s.heap.size)) (hr : meth.sig.returnType = (some .int)) :
    ∀ (o0 : Nat) (x1 : Int32) (h : mh_H) (H : Heap) (locs : List Loc) (ls : Array Slot), mh_W D ks L (mh_A L s.heap.size) s.heap h H locs → lv_has ls 5 [(0, .ref o0), (1, .int x1)] → f_X12_needed_e o0 x1 h = some (r, h') → W p l e (mh_rm 2) s m args below meth c H locs 0 0 (MQ below (mh_Qi D ks L s.heap.size r h') args s 0 0 (mh_A L s.heap.size)) (F0 m 0 ls []) := by
  intro o0 x1 h H locs ls wd hl hX
  have hx := cx.1.1
  have hb := cx.1.2.1
  unfold f_X12_needed_e at hX
  refine lv_aload_n hx hb dX12_needed_0 rfl (lv_at hl 0 rfl) ?_
  refine lv_iconst (v := 0) hx hb dX12_needed_1 (by decide) ?_
  refine mh_putI cx wd fp_X12_96 dX12_needed_2 hX (fun h15 H locs wd hX => ?_)
  refine lv_iload_n hx hb dX12_needed_5 rfl (lv_at hl 1 rfl) ?_
  refine mh_callSI cx wd [.int x1] yw_X12_isMint sw_X12_111 rfl hl.1 rfl (Nat.le_of_ble_eq_true rfl) dX12_needed_6 ⟨Nat.le_of_ble_eq_true rfl, Nat.le_of_ble_eq_true rfl⟩ ⟨Nat.le_refl _, Nat.le_refl _⟩ (fun _ _ q => c_X12_isMint q) hX (fun v17 h16 H locs wd hX => ?_)
  refine lv_if_ne (tgt := 18) hx hb dX12_needed_9 rfl (fun hc => (fun hX => ?_) ((mh_if hX).2 hc)) (fun hc => (fun hX => ?_) ((mh_if hX).1 hc))
  · refine lv_aload_n hx hb dX12_needed_18 rfl (lv_at hl 0 rfl) ?_
    refine lv_iload_n hx hb dX12_needed_19 rfl (lv_at hl 1 rfl) ?_
    refine mh_callVV cx wd [.int x1] (rfl : vwCl[12]? = some (RX12, TX12, 38)) yw_X12_take vw_X12_184 rfl hl.1 rfl (Nat.le_of_ble_eq_true rfl) dX12_needed_20 ⟨Nat.le_of_ble_eq_true rfl, Nat.le_of_ble_eq_true rfl⟩ ⟨Nat.le_refl _, Nat.le_refl _⟩ (fun _ q => c_X12_take q) hX (fun h18 H locs wd hX => ?_)
    refine lv_aload_n hx hb dX12_needed_23 rfl (lv_at hl 0 rfl) ?_
    refine mh_callVV cx wd [] (rfl : vwCl[12]? = some (RX12, TX12, 38)) yw_X12_keepNeeded vw_X12_187 rfl hl.1 rfl (Nat.le_of_ble_eq_true rfl) dX12_needed_24 ⟨Nat.le_of_ble_eq_true rfl, Nat.le_of_ble_eq_true rfl⟩ ⟨Nat.le_refl _, Nat.le_refl _⟩ (fun _ q => c_X12_keepNeeded q) hX (fun h19 H locs wd hX => ?_)
    refine lv_iconst (v := 0) hx hb dX12_needed_27 (by decide) ?_
    refine mh_topi hX (fun v20 hX => ?_)
    refine lv_istore_n (lv' := [(2, .int v20), (0, .ref o0), (1, .int x1)]) hx hb dX12_needed_28 rfl hl (Nat.le_of_ble_eq_true rfl) rfl (fun ls hl => ?_)
    refine lv_iconst (v := 0) hx hb dX12_needed_29 (by decide) ?_
    refine mh_topi hX (fun v21 hX => ?_)
    refine lv_istore_n (lv' := [(3, .int v21), (2, .int v20), (0, .ref o0), (1, .int x1)]) hx hb dX12_needed_30 rfl hl (Nat.le_of_ble_eq_true rfl) rfl (fun ls hl => ?_)
    refine lv_iconst (v := 0) hx hb dX12_needed_31 (by decide) ?_
    refine mh_topi hX (fun v22 hX => ?_)
    refine lv_istore (lv' := [(4, .int v22), (3, .int v21), (2, .int v20), (0, .ref o0), (1, .int x1)]) hx hb dX12_needed_32 hl (Nat.le_of_ble_eq_true rfl) rfl (fun ls hl => ?_)
    exact w_X12_needed_b34 cx hr mh_fu _ _ _ _ _ h19 _ _ ls wd (lv_sub hl [3, 4, 2, 1, 0] rfl) hX
  · refine lv_aload_n hx hb dX12_needed_12 rfl (lv_at hl 0 rfl) ?_
    refine lv_iconst (v := 1) hx hb dX12_needed_13 (by decide) ?_
    refine mh_callVI cx wd [.int (1 : Int32)] (rfl : vwCl[12]? = some (RX12, TX12, 38)) yw_X12_fail vw_X12_122 rfl hl.1 rfl (Nat.le_of_ble_eq_true rfl) dX12_needed_14 ⟨Nat.le_of_ble_eq_true rfl, Nat.le_of_ble_eq_true rfl⟩ ⟨Nat.le_refl _, Nat.le_refl _⟩ (fun _ _ q => c_X12_fail q) hX (fun v24 h23 H locs wd hX => ?_)
    exact mh_iret cx wd hr hX dX12_needed_17
set_option maxRecDepth 100000 in
theorem c_X12_needed {l : Launch} {L : List Nat} {h h' : mh_H} {r : Int32} {o0 : Nat} {x1 : Int32} (hX : f_X12_needed_e o0 x1 h = some (r, h')) : mh_MI l yX12_needed (Cond.code yX12_needed cX12_needed 5 (some .int) :: mh_TB) (mh_rm 2) [.ref o0, .int x1] L h r h' :=
  mh_of (mc := 0) (ms := 0) (Qc := fun D ks sz => mh_Qi D ks L sz r h') (plainFor_of_name (by decide)) (Nat.le_of_ble_eq_true rfl) (fun p e s m below meth c D ks ls hr cx wd hl => by
    have hl : lv_has ls 5 [(0, .ref o0), (1, .int x1)] := hl
    exact w_X12_needed_e cx hr o0 x1 h _ _ ls wd hl hX)
def f_X12_same_b19 (o0 : Nat) (h : mh_H) : Option (Int32 × mh_H) :=
  mh_b2 (mh_cal h o0 12 (f_X12_fail_e o0 (1 : Int32) h)) fun v2 h1 =>
  mh_rz (0 : Int32) h1
def f_X12_same_b130 (k97 : Nat → Int32 → Int32 → Int32 → mh_H → Option (Int32 × mh_H)) (o0 : Nat) (x3 : Int32) (x5 : Int32) (t0 : Int32) (h : mh_H) : Option (Int32 × mh_H) :=
  mh_nm (x5 + Int32.ofInt (1)) fun v3 =>
  k97 o0 x3 t0 v3 h
def f_X12_same_b138 (x4 : Int32) (h : mh_H) : Option (Int32 × mh_H) :=
  mh_rz x4 h
def f_X12_same_b97 : Nat → Nat → Int32 → Int32 → Int32 → mh_H → Option (Int32 × mh_H)
  | 0, _, _, _, _, _ => none
  | n + 1, o0, x3, x4, x5, h =>
    if x3 ≤ x5 then (
    f_X12_same_b138 x4 h) else
    if x4 = 0 then (
    f_X12_same_b138 x4 h) else
    (mh_gR h o0 12 34).bind fun a4 =>
    (mh_aI h a4 0 x5).bind fun v5 =>
    (mh_gR h o0 12 13).bind fun a6 =>
    (mh_aI h a6 0 x5).bind fun v7 =>
    if v5 = v7 then (
    f_X12_same_b130 (f_X12_same_b97 n) o0 x3 x5 (1 : Int32) h) else
    f_X12_same_b130 (f_X12_same_b97 n) o0 x3 x5 (0 : Int32) h
def f_X12_same_b92 (o0 : Nat) (x3 : Int32) (t0 : Int32) (h : mh_H) : Option (Int32 × mh_H) :=
  mh_nm (0 : Int32) fun v8 =>
  f_X12_same_b97 mh_fu o0 x3 t0 v8 h
def f_X12_same_b70 (o0 : Nat) (x2 : Int32) (x3 : Int32) (h : mh_H) : Option (Int32 × mh_H) :=
  (mh_cal h o0 12 (f_X12_take_e o0 x2 h)).bind fun h9 =>
  (mh_cal h9 o0 12 (f_X12_keepNeeded_e o0 h9)).bind fun h10 =>
  (mh_gI h10 o0 12 14).bind fun v11 =>
  if x3 = v11 then (
  f_X12_same_b92 o0 x3 (1 : Int32) h10) else
  f_X12_same_b92 o0 x3 (0 : Int32) h10
def f_X12_same_b44 : Nat → Nat → Int32 → Int32 → Int32 → mh_H → Option (Int32 × mh_H)
  | 0, _, _, _, _, _ => none
  | n + 1, o0, x2, x3, x4, h =>
    if x3 ≤ x4 then (
    f_X12_same_b70 o0 x2 x3 h) else
    (mh_gR h o0 12 34).bind fun a12 =>
    (mh_gR h o0 12 13).bind fun a13 =>
    (mh_aI h a13 0 x4).bind fun v14 =>
    (mh_sI h a12 x4 v14).bind fun h15 =>
    mh_nm (x4 + Int32.ofInt (1)) fun v16 =>
    f_X12_same_b44 n o0 x2 x3 v16 h15
def f_X12_same_e (o0 : Nat) (x1 : Int32) (x2 : Int32) (h : mh_H) : Option (Int32 × mh_H) :=
  (mh_pI h o0 12 0 (0 : Int32)).bind fun h17 =>
  mh_b2 (f_X12_isMint_e x1 h17) fun v19 h18 =>
  if v19 = 0 then (
  f_X12_same_b19 o0 h18) else
  mh_b2 (f_X12_isMint_e x2 h18) fun v21 h20 =>
  if v21 = 0 then (
  f_X12_same_b19 o0 h20) else
  (mh_cal h20 o0 12 (f_X12_take_e o0 x1 h20)).bind fun h22 =>
  (mh_cal h22 o0 12 (f_X12_keepNeeded_e o0 h22)).bind fun h23 =>
  (mh_gI h23 o0 12 14).bind fun v24 =>
  mh_nm (0 : Int32) fun v25 =>
  f_X12_same_b44 mh_fu o0 x2 v24 v25 h23
set_option maxRecDepth 100000 in
set_option maxHeartbeats 4000000 in
theorem w_X12_same_b19 {p : Program} {l : Launch} {e : Env} {s : State} {m : MethodId} {args : Array Value} {below : List Frame} {meth : Method} {c : Code} {D : va_G} {ks : Nat → ClassId} {L : List Nat} {r : Int32} {h' : mh_H} (cx : mh_C p m c cX12_same 6 s args RX12 meth D ks (mh_A L s.heap.size)) (hr : meth.sig.returnType = (some .boolean)) :
    ∀ (o0 : Nat) (h : mh_H) (H : Heap) (locs : List Loc) (ls : Array Slot), mh_W D ks L (mh_A L s.heap.size) s.heap h H locs → lv_has ls 6 [(0, .ref o0)] → f_X12_same_b19 o0 h = some (r, h') → W p l e (mh_rm 2) s m args below meth c H locs 0 0 (MQ below (mh_Qi D ks L s.heap.size r h') args s 0 0 (mh_A L s.heap.size)) (F0 m 19 ls []) := by
  intro o0 h H locs ls wd hl hX
  have hx := cx.1.1
  have hb := cx.1.2.1
  unfold f_X12_same_b19 at hX
  refine lv_aload_n hx hb dX12_same_19 rfl (lv_at hl 0 rfl) ?_
  refine lv_iconst (v := 1) hx hb dX12_same_20 (by decide) ?_
  refine mh_callVI cx wd [.int (1 : Int32)] (rfl : vwCl[12]? = some (RX12, TX12, 38)) yw_X12_fail vw_X12_122 rfl hl.1 rfl (Nat.le_of_ble_eq_true rfl) dX12_same_21 ⟨Nat.le_of_ble_eq_true rfl, Nat.le_of_ble_eq_true rfl⟩ ⟨Nat.le_refl _, Nat.le_refl _⟩ (fun _ _ q => c_X12_fail q) hX (fun v2 h1 H locs wd hX => ?_)
  refine lv_pop hx hb dX12_same_24 rfl ?_
  refine lv_iconst (v := 0) hx hb dX12_same_25 (by decide) ?_
  exact mh_zret cx wd hr hX dX12_same_26
set_option maxRecDepth 100000 in
set_option maxHeartbeats 4000000 in
theorem w_X12_same_b130 {p : Program} {l : Launch} {e : Env} {s : State} {m : MethodId} {args : Array Value} {below : List Frame} {meth : Method} {c : Code} {D : va_G} {ks : Nat → ClassId} {L : List Nat} {r : Int32} {h' : mh_H} (k97 : Nat → Int32 → Int32 → Int32 → mh_H → Option (Int32 × mh_H)) (cx : mh_C p m c cX12_same 6 s args RX12 meth D ks (mh_A L s.heap.size)) (hr : meth.sig.returnType = (some .boolean))
    (hk97 : ∀ (o0 : Nat) (x3 : Int32) (x4 : Int32) (x5 : Int32) (h : mh_H) (H : Heap) (locs : List Loc) (ls : Array Slot), mh_W D ks L (mh_A L s.heap.size) s.heap h H locs → lv_has ls 6 [(0, .ref o0), (3, .int x3), (4, .int x4), (5, .int x5)] → k97 o0 x3 x4 x5 h = some (r, h') → W p l e (mh_rm 2) s m args below meth c H locs 0 0 (MQ below (mh_Qi D ks L s.heap.size r h') args s 0 0 (mh_A L s.heap.size)) (F0 m 97 ls [])) :
    ∀ (o0 : Nat) (x3 : Int32) (x5 : Int32) (t0 : Int32) (h : mh_H) (H : Heap) (locs : List Loc) (ls : Array Slot), mh_W D ks L (mh_A L s.heap.size) s.heap h H locs → lv_has ls 6 [(0, .ref o0), (3, .int x3), (5, .int x5)] → f_X12_same_b130 k97 o0 x3 x5 t0 h = some (r, h') → W p l e (mh_rm 2) s m args below meth c H locs 0 0 (MQ below (mh_Qi D ks L s.heap.size r h') args s 0 0 (mh_A L s.heap.size)) (F0 m 130 ls [.int t0]) := by
  intro o0 x3 x5 t0 h H locs ls wd hl hX
  have hx := cx.1.1
  have hb := cx.1.2.1
  unfold f_X12_same_b130 at hX
  refine lv_istore (lv' := [(4, .int t0), (0, .ref o0), (3, .int x3), (5, .int x5)]) hx hb dX12_same_130 hl (Nat.le_of_ble_eq_true rfl) rfl (fun ls hl => ?_)
  obtain ⟨v3, ev3, hX⟩ := mh_nmx hX
  refine lv_iinc (k := 3) (v := v3) (lv' := [(5, .int v3), (4, .int t0), (0, .ref o0), (3, .int x3)]) hx hb dX12_same_132 hl rfl ev3 (Nat.le_of_ble_eq_true rfl) rfl (fun ls hl => ?_)
  refine lv_goto (tgt := 97) hx hb dX12_same_135 rfl ?_
  exact hk97 _ _ _ _ h _ _ ls wd (lv_sub hl [2, 3, 1, 0] rfl) hX
set_option maxRecDepth 100000 in
set_option maxHeartbeats 4000000 in
theorem w_X12_same_b138 {p : Program} {l : Launch} {e : Env} {s : State} {m : MethodId} {args : Array Value} {below : List Frame} {meth : Method} {c : Code} {D : va_G} {ks : Nat → ClassId} {L : List Nat} {r : Int32} {h' : mh_H} (cx : mh_C p m c cX12_same 6 s args RX12 meth D ks (mh_A L s.heap.size)) (hr : meth.sig.returnType = (some .boolean)) :
    ∀ (x4 : Int32) (h : mh_H) (H : Heap) (locs : List Loc) (ls : Array Slot), mh_W D ks L (mh_A L s.heap.size) s.heap h H locs → lv_has ls 6 [(4, .int x4)] → f_X12_same_b138 x4 h = some (r, h') → W p l e (mh_rm 2) s m args below meth c H locs 0 0 (MQ below (mh_Qi D ks L s.heap.size r h') args s 0 0 (mh_A L s.heap.size)) (F0 m 138 ls []) := by
  intro x4 h H locs ls wd hl hX
  have hx := cx.1.1
  have hb := cx.1.2.1
  unfold f_X12_same_b138 at hX
  refine lv_iload hx hb dX12_same_138 (lv_at hl 0 rfl) ?_
  exact mh_zret cx wd hr hX dX12_same_140
set_option maxRecDepth 100000 in
set_option maxHeartbeats 4000000 in
theorem w_X12_same_b97 {p : Program} {l : Launch} {e : Env} {s : State} {m : MethodId} {args : Array Value} {below : List Frame} {meth : Method} {c : Code} {D : va_G} {ks : Nat → ClassId} {L : List Nat} {r : Int32} {h' : mh_H} (cx : mh_C p m c cX12_same 6 s args RX12 meth D ks (mh_A L s.heap.size)) (hr : meth.sig.returnType = (some .boolean)) :
    ∀ n : Nat, ∀ (o0 : Nat) (x3 : Int32) (x4 : Int32) (x5 : Int32) (h : mh_H) (H : Heap) (locs : List Loc) (ls : Array Slot), mh_W D ks L (mh_A L s.heap.size) s.heap h H locs → lv_has ls 6 [(0, .ref o0), (3, .int x3), (4, .int x4), (5, .int x5)] → f_X12_same_b97 n o0 x3 x4 x5 h = some (r, h') → W p l e (mh_rm 2) s m args below meth c H locs 0 0 (MQ below (mh_Qi D ks L s.heap.size r h') args s 0 0 (mh_A L s.heap.size)) (F0 m 97 ls []) := by
  intro n
  induction n with
  | zero =>
    intro o0 x3 x4 x5 h H locs ls wd hl hX
    cases hX
  | succ n ih =>
    intro o0 x3 x4 x5 h H locs ls wd hl hX
    have hx := cx.1.1
    have hb := cx.1.2.1
    rw [f_X12_same_b97] at hX
    refine lv_iload hx hb dX12_same_97 (lv_at hl 3 rfl) ?_
    refine lv_iload_n hx hb dX12_same_99 rfl (lv_at hl 1 rfl) ?_
    refine lv_icmp_ge (tgt := 138) hx hb dX12_same_100 rfl (fun hc => (fun hX => ?_) ((mh_if hX).1 hc)) (fun hc => (fun hX => ?_) ((mh_if hX).2 hc))
    · exact w_X12_same_b138 cx hr _ h _ _ ls wd (lv_sub hl [2] rfl) hX
    · refine lv_iload hx hb dX12_same_103 (lv_at hl 2 rfl) ?_
      refine lv_if_eq (tgt := 138) hx hb dX12_same_105 rfl (fun hc => (fun hX => ?_) ((mh_if hX).1 hc)) (fun hc => (fun hX => ?_) ((mh_if hX).2 hc))
      · exact w_X12_same_b138 cx hr _ h _ _ ls wd (lv_sub hl [2] rfl) hX
      · refine lv_aload_n hx hb dX12_same_108 rfl (lv_at hl 0 rfl) ?_
        refine mh_getR cx wd fl_X12_84 dX12_same_109 hX (fun a4 hX => ?_)
        refine lv_iload hx hb dX12_same_112 (lv_at hl 3 rfl) ?_
        refine mh_iald cx wd dX12_same_114 hX (fun v5 hX => ?_)
        refine lv_aload_n hx hb dX12_same_115 rfl (lv_at hl 0 rfl) ?_
        refine mh_getR cx wd fl_X12_45 dX12_same_116 hX (fun a6 hX => ?_)
        refine lv_iload hx hb dX12_same_119 (lv_at hl 3 rfl) ?_
        refine mh_iald cx wd dX12_same_121 hX (fun v7 hX => ?_)
        refine lv_icmp_ne (tgt := 129) hx hb dX12_same_122 rfl (fun hc => (fun hX => ?_) ((mh_if hX).2 hc)) (fun hc => (fun hX => ?_) ((mh_if hX).1 hc))
        · refine lv_iconst (v := 0) hx hb dX12_same_129 (by decide) ?_
          exact w_X12_same_b130 (f_X12_same_b97 n) cx hr ih _ _ _ _ h _ _ ls wd (lv_sub hl [0, 1, 3] rfl) hX
        · refine lv_iconst (v := 1) hx hb dX12_same_125 (by decide) ?_
          refine lv_goto (tgt := 130) hx hb dX12_same_126 rfl ?_
          exact w_X12_same_b130 (f_X12_same_b97 n) cx hr ih _ _ _ _ h _ _ ls wd (lv_sub hl [0, 1, 3] rfl) hX
set_option maxRecDepth 100000 in
set_option maxHeartbeats 4000000 in
theorem w_X12_same_b92 {p : Program} {l : Launch} {e : Env} {s : State} {m : MethodId} {args : Array Value} {below : List Frame} {meth : Method} {c : Code} {D : va_G} {ks : Nat → ClassId} {L : List Nat} {r : Int32} {h' : mh_H} (cx : mh_C p m c cX12_same 6 s args RX12 meth D ks (mh_A L s.heap.size)) (hr : meth.sig.returnType = (some .boolean)) :
    ∀ (o0 : Nat) (x3 : Int32) (t0 : Int32) (h : mh_H) (H : Heap) (locs : List Loc) (ls : Array Slot), mh_W D ks L (mh_A L s.heap.size) s.heap h H locs → lv_has ls 6 [(0, .ref o0), (3, .int x3)] → f_X12_same_b92 o0 x3 t0 h = some (r, h') → W p l e (mh_rm 2) s m args below meth c H locs 0 0 (MQ below (mh_Qi D ks L s.heap.size r h') args s 0 0 (mh_A L s.heap.size)) (F0 m 92 ls [.int t0]) := by
  intro o0 x3 t0 h H locs ls wd hl hX
  have hx := cx.1.1
  have hb := cx.1.2.1
  unfold f_X12_same_b92 at hX
  refine lv_istore (lv' := [(4, .int t0), (0, .ref o0), (3, .int x3)]) hx hb dX12_same_92 hl (Nat.le_of_ble_eq_true rfl) rfl (fun ls hl => ?_)
  refine lv_iconst (v := 0) hx hb dX12_same_94 (by decide) ?_
  refine mh_topi hX (fun v8 hX => ?_)
  refine lv_istore (lv' := [(5, .int v8), (4, .int t0), (0, .ref o0), (3, .int x3)]) hx hb dX12_same_95 hl (Nat.le_of_ble_eq_true rfl) rfl (fun ls hl => ?_)
  exact w_X12_same_b97 cx hr mh_fu _ _ _ _ h _ _ ls wd (lv_sub hl [2, 3, 1, 0] rfl) hX
set_option maxRecDepth 100000 in
set_option maxHeartbeats 4000000 in
theorem w_X12_same_b70 {p : Program} {l : Launch} {e : Env} {s : State} {m : MethodId} {args : Array Value} {below : List Frame} {meth : Method} {c : Code} {D : va_G} {ks : Nat → ClassId} {L : List Nat} {r : Int32} {h' : mh_H} (cx : mh_C p m c cX12_same 6 s args RX12 meth D ks (mh_A L s.heap.size)) (hr : meth.sig.returnType = (some .boolean)) :
    ∀ (o0 : Nat) (x2 : Int32) (x3 : Int32) (h : mh_H) (H : Heap) (locs : List Loc) (ls : Array Slot), mh_W D ks L (mh_A L s.heap.size) s.heap h H locs → lv_has ls 6 [(0, .ref o0), (2, .int x2), (3, .int x3)] → f_X12_same_b70 o0 x2 x3 h = some (r, h') → W p l e (mh_rm 2) s m args below meth c H locs 0 0 (MQ below (mh_Qi D ks L s.heap.size r h') args s 0 0 (mh_A L s.heap.size)) (F0 m 70 ls []) := by
  intro o0 x2 x3 h H locs ls wd hl hX
  have hx := cx.1.1
  have hb := cx.1.2.1
  unfold f_X12_same_b70 at hX
  refine lv_aload_n hx hb dX12_same_70 rfl (lv_at hl 0 rfl) ?_
  refine lv_iload_n hx hb dX12_same_71 rfl (lv_at hl 1 rfl) ?_
  refine mh_callVV cx wd [.int x2] (rfl : vwCl[12]? = some (RX12, TX12, 38)) yw_X12_take vw_X12_184 rfl hl.1 rfl (Nat.le_of_ble_eq_true rfl) dX12_same_72 ⟨Nat.le_of_ble_eq_true rfl, Nat.le_of_ble_eq_true rfl⟩ ⟨Nat.le_refl _, Nat.le_refl _⟩ (fun _ q => c_X12_take q) hX (fun h9 H locs wd hX => ?_)
  refine lv_aload_n hx hb dX12_same_75 rfl (lv_at hl 0 rfl) ?_
  refine mh_callVV cx wd [] (rfl : vwCl[12]? = some (RX12, TX12, 38)) yw_X12_keepNeeded vw_X12_187 rfl hl.1 rfl (Nat.le_of_ble_eq_true rfl) dX12_same_76 ⟨Nat.le_of_ble_eq_true rfl, Nat.le_of_ble_eq_true rfl⟩ ⟨Nat.le_refl _, Nat.le_refl _⟩ (fun _ q => c_X12_keepNeeded q) hX (fun h10 H locs wd hX => ?_)
  refine lv_iload_n hx hb dX12_same_79 rfl (lv_at hl 2 rfl) ?_
  refine lv_aload_n hx hb dX12_same_80 rfl (lv_at hl 0 rfl) ?_
  refine mh_getI cx wd fl_X12_181 dX12_same_81 hX (fun v11 hX => ?_)
  refine lv_icmp_ne (tgt := 91) hx hb dX12_same_84 rfl (fun hc => (fun hX => ?_) ((mh_if hX).2 hc)) (fun hc => (fun hX => ?_) ((mh_if hX).1 hc))
  · refine lv_iconst (v := 0) hx hb dX12_same_91 (by decide) ?_
    exact w_X12_same_b92 cx hr _ _ _ h10 _ _ ls wd (lv_sub hl [0, 2] rfl) hX
  · refine lv_iconst (v := 1) hx hb dX12_same_87 (by decide) ?_
    refine lv_goto (tgt := 92) hx hb dX12_same_88 rfl ?_
    exact w_X12_same_b92 cx hr _ _ _ h10 _ _ ls wd (lv_sub hl [0, 2] rfl) hX
set_option maxRecDepth 100000 in
set_option maxHeartbeats 4000000 in
theorem w_X12_same_b44 {p : Program} {l : Launch} {e : Env} {s : State} {m : MethodId} {args : Array Value} {below : List Frame} {meth : Method} {c : Code} {D : va_G} {ks : Nat → ClassId} {L : List Nat} {r : Int32} {h' : mh_H} (cx : mh_C p m c cX12_same 6 s args RX12 meth D ks (mh_A L s.heap.size)) (hr : meth.sig.returnType = (some .boolean)) :
    ∀ n : Nat, ∀ (o0 : Nat) (x2 : Int32) (x3 : Int32) (x4 : Int32) (h : mh_H) (H : Heap) (locs : List Loc) (ls : Array Slot), mh_W D ks L (mh_A L s.heap.size) s.heap h H locs → lv_has ls 6 [(0, .ref o0), (2, .int x2), (3, .int x3), (4, .int x4)] → f_X12_same_b44 n o0 x2 x3 x4 h = some (r, h') → W p l e (mh_rm 2) s m args below meth c H locs 0 0 (MQ below (mh_Qi D ks L s.heap.size r h') args s 0 0 (mh_A L s.heap.size)) (F0 m 44 ls []) := by
  intro n
  induction n with
  | zero =>
    intro o0 x2 x3 x4 h H locs ls wd hl hX
    cases hX
  | succ n ih =>
    intro o0 x2 x3 x4 h H locs ls wd hl hX
    have hx := cx.1.1
    have hb := cx.1.2.1
    rw [f_X12_same_b44] at hX
    refine lv_iload hx hb dX12_same_44 (lv_at hl 3 rfl) ?_
    refine lv_iload_n hx hb dX12_same_46 rfl (lv_at hl 2 rfl) ?_
    refine lv_icmp_ge (tgt := 70) hx hb dX12_same_47 rfl (fun hc => (fun hX => ?_) ((mh_if hX).1 hc)) (fun hc => (fun hX => ?_) ((mh_if hX).2 hc))
    · exact w_X12_same_b70 cx hr _ _ _ h _ _ ls wd (lv_sub hl [0, 1, 2] rfl) hX
    · refine lv_aload_n hx hb dX12_same_50 rfl (lv_at hl 0 rfl) ?_
      refine mh_getR cx wd fl_X12_84 dX12_same_51 hX (fun a12 hX => ?_)
      refine lv_iload hx hb dX12_same_54 (lv_at hl 3 rfl) ?_
      refine lv_aload_n hx hb dX12_same_56 rfl (lv_at hl 0 rfl) ?_
      refine mh_getR cx wd fl_X12_45 dX12_same_57 hX (fun a13 hX => ?_)
      refine lv_iload hx hb dX12_same_60 (lv_at hl 3 rfl) ?_
      refine mh_iald cx wd dX12_same_62 hX (fun v14 hX => ?_)
      refine mh_iast cx wd dX12_same_63 hX (fun h15 H locs wd hX => ?_)
      obtain ⟨v16, ev16, hX⟩ := mh_nmx hX
      refine lv_iinc (k := 3) (v := v16) (lv' := [(4, .int v16), (0, .ref o0), (2, .int x2), (3, .int x3)]) hx hb dX12_same_64 hl rfl ev16 (Nat.le_of_ble_eq_true rfl) rfl (fun ls hl => ?_)
      refine lv_goto (tgt := 44) hx hb dX12_same_67 rfl ?_
      exact ih _ _ _ _ h15 _ _ ls wd (lv_sub hl [1, 2, 3, 0] rfl) hX
set_option maxRecDepth 100000 in
set_option maxHeartbeats 4000000 in
theorem w_X12_same_e {p : Program} {l : Launch} {e : Env} {s : State} {m : MethodId} {args : Array Value} {below : List Frame} {meth : Method} {c : Code} {D : va_G} {ks : Nat → ClassId} {L : List Nat} {r : Int32} {h' : mh_H} (cx : mh_C p m c cX12_same 6 s args RX12 meth D ks (mh_A L s.heap.size)) (hr : meth.sig.returnType = (some .boolean)) :
    ∀ (o0 : Nat) (x1 : Int32) (x2 : Int32) (h : mh_H) (H : Heap) (locs : List Loc) (ls : Array Slot), mh_W D ks L (mh_A L s.heap.size) s.heap h H locs → lv_has ls 6 [(0, .ref o0), (1, .int x1), (2, .int x2)] → f_X12_same_e o0 x1 x2 h = some (r, h') → W p l e (mh_rm 2) s m args below meth c H locs 0 0 (MQ below (mh_Qi D ks L s.heap.size r h') args s 0 0 (mh_A L s.heap.size)) (F0 m 0 ls []) := by
  intro o0 x1 x2 h H locs ls wd hl hX
  have hx := cx.1.1
  have hb := cx.1.2.1
  unfold f_X12_same_e at hX
  refine lv_aload_n hx hb dX12_same_0 rfl (lv_at hl 0 rfl) ?_
  refine lv_iconst (v := 0) hx hb dX12_same_1 (by decide) ?_
  refine mh_putI cx wd fp_X12_96 dX12_same_2 hX (fun h17 H locs wd hX => ?_)
  refine lv_iload_n hx hb dX12_same_5 rfl (lv_at hl 1 rfl) ?_
  refine mh_callSI cx wd [.int x1] yw_X12_isMint sw_X12_111 rfl hl.1 rfl (Nat.le_of_ble_eq_true rfl) dX12_same_6 ⟨Nat.le_of_ble_eq_true rfl, Nat.le_of_ble_eq_true rfl⟩ ⟨Nat.le_refl _, Nat.le_refl _⟩ (fun _ _ q => c_X12_isMint q) hX (fun v19 h18 H locs wd hX => ?_)
  refine lv_if_eq (tgt := 19) hx hb dX12_same_9 rfl (fun hc => (fun hX => ?_) ((mh_if hX).1 hc)) (fun hc => (fun hX => ?_) ((mh_if hX).2 hc))
  · exact w_X12_same_b19 cx hr _ h18 _ _ ls wd (lv_sub hl [0] rfl) hX
  · refine lv_iload_n hx hb dX12_same_12 rfl (lv_at hl 2 rfl) ?_
    refine mh_callSI cx wd [.int x2] yw_X12_isMint sw_X12_111 rfl hl.1 rfl (Nat.le_of_ble_eq_true rfl) dX12_same_13 ⟨Nat.le_of_ble_eq_true rfl, Nat.le_of_ble_eq_true rfl⟩ ⟨Nat.le_refl _, Nat.le_refl _⟩ (fun _ _ q => c_X12_isMint q) hX (fun v21 h20 H locs wd hX => ?_)
    refine lv_if_ne (tgt := 27) hx hb dX12_same_16 rfl (fun hc => (fun hX => ?_) ((mh_if hX).2 hc)) (fun hc => (fun hX => ?_) ((mh_if hX).1 hc))
    · refine lv_aload_n hx hb dX12_same_27 rfl (lv_at hl 0 rfl) ?_
      refine lv_iload_n hx hb dX12_same_28 rfl (lv_at hl 1 rfl) ?_
      refine mh_callVV cx wd [.int x1] (rfl : vwCl[12]? = some (RX12, TX12, 38)) yw_X12_take vw_X12_184 rfl hl.1 rfl (Nat.le_of_ble_eq_true rfl) dX12_same_29 ⟨Nat.le_of_ble_eq_true rfl, Nat.le_of_ble_eq_true rfl⟩ ⟨Nat.le_refl _, Nat.le_refl _⟩ (fun _ q => c_X12_take q) hX (fun h22 H locs wd hX => ?_)
      refine lv_aload_n hx hb dX12_same_32 rfl (lv_at hl 0 rfl) ?_
      refine mh_callVV cx wd [] (rfl : vwCl[12]? = some (RX12, TX12, 38)) yw_X12_keepNeeded vw_X12_187 rfl hl.1 rfl (Nat.le_of_ble_eq_true rfl) dX12_same_33 ⟨Nat.le_of_ble_eq_true rfl, Nat.le_of_ble_eq_true rfl⟩ ⟨Nat.le_refl _, Nat.le_refl _⟩ (fun _ q => c_X12_keepNeeded q) hX (fun h23 H locs wd hX => ?_)
      refine lv_aload_n hx hb dX12_same_36 rfl (lv_at hl 0 rfl) ?_
      refine mh_getI cx wd fl_X12_181 dX12_same_37 hX (fun v24 hX => ?_)
      refine lv_istore_n (lv' := [(3, .int v24), (0, .ref o0), (1, .int x1), (2, .int x2)]) hx hb dX12_same_40 rfl hl (Nat.le_of_ble_eq_true rfl) rfl (fun ls hl => ?_)
      refine lv_iconst (v := 0) hx hb dX12_same_41 (by decide) ?_
      refine mh_topi hX (fun v25 hX => ?_)
      refine lv_istore (lv' := [(4, .int v25), (3, .int v24), (0, .ref o0), (1, .int x1), (2, .int x2)]) hx hb dX12_same_42 hl (Nat.le_of_ble_eq_true rfl) rfl (fun ls hl => ?_)
      exact w_X12_same_b44 cx hr mh_fu _ _ _ _ h23 _ _ ls wd (lv_sub hl [2, 4, 1, 0] rfl) hX
    · exact w_X12_same_b19 cx hr _ h20 _ _ ls wd (lv_sub hl [0] rfl) hX
set_option maxRecDepth 100000 in
theorem c_X12_same {l : Launch} {L : List Nat} {h h' : mh_H} {r : Int32} {o0 : Nat} {x1 : Int32} {x2 : Int32} (hX : f_X12_same_e o0 x1 x2 h = some (r, h')) : mh_MI l yX12_same (Cond.code yX12_same cX12_same 6 (some .boolean) :: mh_TB) (mh_rm 2) [.ref o0, .int x1, .int x2] L h r h' :=
  mh_of (mc := 0) (ms := 0) (Qc := fun D ks sz => mh_Qi D ks L sz r h') (plainFor_of_name (by decide)) (Nat.le_of_ble_eq_true rfl) (fun p e s m below meth c D ks ls hr cx wd hl => by
    have hl : lv_has ls 6 [(0, .ref o0), (1, .int x1), (2, .int x2)] := hl
    exact w_X12_same_e cx hr o0 x1 x2 h _ _ ls wd hl hX)
def f_X12_becomes_b48 (o0 : Nat) (h : mh_H) : Option (Int32 × mh_H) :=
  (mh_cal h o0 12 (f_X12_changed_e o0 h)).bind fun h1 =>
  (mh_gI h1 o0 12 14).bind fun v2 =>
  some (v2, h1)
def f_X12_becomes_b15 : Nat → Nat → Int32 → Int32 → mh_H → Option (Int32 × mh_H)
  | 0, _, _, _, _ => none
  | n + 1, o0, x1, x2, h =>
    (mh_gI h o0 12 14).bind fun v3 =>
    if v3 ≤ x2 then (
    f_X12_becomes_b48 o0 h) else
    (mh_gR h o0 12 1).bind fun a4 =>
    mh_b2 (f_X12_mintAt_e x1 h) fun v6 h5 =>
    (mh_gR h5 o0 12 13).bind fun a7 =>
    (mh_aI h5 a7 0 x2).bind fun v8 =>
    (mh_sI h5 a4 ((v6 + (1 : Int32)) + x2) v8).bind fun h9 =>
    mh_nm (x2 + Int32.ofInt (1)) fun v10 =>
    f_X12_becomes_b15 n o0 x1 v10 h9
def f_X12_becomes_e (o0 : Nat) (x1 : Int32) (h : mh_H) : Option (Int32 × mh_H) :=
  (mh_gR h o0 12 1).bind fun a11 =>
  mh_b2 (f_X12_mintAt_e x1 h) fun v13 h12 =>
  (mh_gI h12 o0 12 14).bind fun v14 =>
  (mh_sI h12 a11 v13 v14).bind fun h15 =>
  mh_nm (0 : Int32) fun v16 =>
  f_X12_becomes_b15 mh_fu o0 x1 v16 h15
set_option maxRecDepth 100000 in
set_option maxHeartbeats 4000000 in
theorem w_X12_becomes_b48 {p : Program} {l : Launch} {e : Env} {s : State} {m : MethodId} {args : Array Value} {below : List Frame} {meth : Method} {c : Code} {D : va_G} {ks : Nat → ClassId} {L : List Nat} {r : Int32} {h' : mh_H} (cx : mh_C p m c cX12_becomes 3 s args RX12 meth D ks (mh_A L s.heap.size)) (hr : meth.sig.returnType = (some .int)) :
    ∀ (o0 : Nat) (h : mh_H) (H : Heap) (locs : List Loc) (ls : Array Slot), mh_W D ks L (mh_A L s.heap.size) s.heap h H locs → lv_has ls 3 [(0, .ref o0)] → f_X12_becomes_b48 o0 h = some (r, h') → W p l e (mh_rm 1) s m args below meth c H locs 0 0 (MQ below (mh_Qi D ks L s.heap.size r h') args s 0 0 (mh_A L s.heap.size)) (F0 m 48 ls []) := by
  intro o0 h H locs ls wd hl hX
  have hx := cx.1.1
  have hb := cx.1.2.1
  unfold f_X12_becomes_b48 at hX
  refine lv_aload_n hx hb dX12_becomes_48 rfl (lv_at hl 0 rfl) ?_
  refine mh_callVV cx wd [] (rfl : vwCl[12]? = some (RX12, TX12, 38)) yw_X12_changed vw_X12_119 rfl hl.1 rfl (Nat.le_of_ble_eq_true rfl) dX12_becomes_49 ⟨Nat.le_of_ble_eq_true rfl, Nat.le_of_ble_eq_true rfl⟩ ⟨Nat.le_refl _, Nat.le_refl _⟩ (fun _ q => c_X12_changed q) hX (fun h1 H locs wd hX => ?_)
  refine lv_aload_n hx hb dX12_becomes_52 rfl (lv_at hl 0 rfl) ?_
  refine mh_getI cx wd fl_X12_181 dX12_becomes_53 hX (fun v2 hX => ?_)
  exact mh_iret cx wd hr hX dX12_becomes_56
set_option maxRecDepth 100000 in
set_option maxHeartbeats 4000000 in
theorem w_X12_becomes_b15 {p : Program} {l : Launch} {e : Env} {s : State} {m : MethodId} {args : Array Value} {below : List Frame} {meth : Method} {c : Code} {D : va_G} {ks : Nat → ClassId} {L : List Nat} {r : Int32} {h' : mh_H} (cx : mh_C p m c cX12_becomes 3 s args RX12 meth D ks (mh_A L s.heap.size)) (hr : meth.sig.returnType = (some .int)) :
    ∀ n : Nat, ∀ (o0 : Nat) (x1 : Int32) (x2 : Int32) (h : mh_H) (H : Heap) (locs : List Loc) (ls : Array Slot), mh_W D ks L (mh_A L s.heap.size) s.heap h H locs → lv_has ls 3 [(0, .ref o0), (1, .int x1), (2, .int x2)] → f_X12_becomes_b15 n o0 x1 x2 h = some (r, h') → W p l e (mh_rm 1) s m args below meth c H locs 0 0 (MQ below (mh_Qi D ks L s.heap.size r h') args s 0 0 (mh_A L s.heap.size)) (F0 m 15 ls []) := by
  intro n
  induction n with
  | zero =>
    intro o0 x1 x2 h H locs ls wd hl hX
    cases hX
  | succ n ih =>
    intro o0 x1 x2 h H locs ls wd hl hX
    have hx := cx.1.1
    have hb := cx.1.2.1
    rw [f_X12_becomes_b15] at hX
    refine lv_iload_n hx hb dX12_becomes_15 rfl (lv_at hl 2 rfl) ?_
    refine lv_aload_n hx hb dX12_becomes_16 rfl (lv_at hl 0 rfl) ?_
    refine mh_getI cx wd fl_X12_181 dX12_becomes_17 hX (fun v3 hX => ?_)
    refine lv_icmp_ge (tgt := 48) hx hb dX12_becomes_20 rfl (fun hc => (fun hX => ?_) ((mh_if hX).1 hc)) (fun hc => (fun hX => ?_) ((mh_if hX).2 hc))
    · exact w_X12_becomes_b48 cx hr _ h _ _ ls wd (lv_sub hl [0] rfl) hX
    · refine lv_aload_n hx hb dX12_becomes_23 rfl (lv_at hl 0 rfl) ?_
      refine mh_getR cx wd fl_X12_9 dX12_becomes_24 hX (fun a4 hX => ?_)
      refine lv_iload_n hx hb dX12_becomes_27 rfl (lv_at hl 1 rfl) ?_
      refine mh_callSI cx wd [.int x1] yw_X12_mintAt sw_X12_115 rfl hl.1 rfl (Nat.le_of_ble_eq_true rfl) dX12_becomes_28 ⟨Nat.le_of_ble_eq_true rfl, Nat.le_of_ble_eq_true rfl⟩ ⟨Nat.le_refl _, Nat.le_refl _⟩ (fun _ _ q => c_X12_mintAt q) hX (fun v6 h5 H locs wd hX => ?_)
      refine lv_iconst (v := 1) hx hb dX12_becomes_31 (by decide) ?_
      refine lv_iadd hx hb dX12_becomes_32 ?_
      refine lv_iload_n hx hb dX12_becomes_33 rfl (lv_at hl 2 rfl) ?_
      refine lv_iadd hx hb dX12_becomes_34 ?_
      refine lv_aload_n hx hb dX12_becomes_35 rfl (lv_at hl 0 rfl) ?_
      refine mh_getR cx wd fl_X12_45 dX12_becomes_36 hX (fun a7 hX => ?_)
      refine lv_iload_n hx hb dX12_becomes_39 rfl (lv_at hl 2 rfl) ?_
      refine mh_iald cx wd dX12_becomes_40 hX (fun v8 hX => ?_)
      refine mh_iast cx wd dX12_becomes_41 hX (fun h9 H locs wd hX => ?_)
      obtain ⟨v10, ev10, hX⟩ := mh_nmx hX
      refine lv_iinc (k := 2) (v := v10) (lv' := [(2, .int v10), (0, .ref o0), (1, .int x1)]) hx hb dX12_becomes_42 hl rfl ev10 (Nat.le_of_ble_eq_true rfl) rfl (fun ls hl => ?_)
      refine lv_goto (tgt := 15) hx hb dX12_becomes_45 rfl ?_
      exact ih _ _ _ h9 _ _ ls wd (lv_sub hl [1, 2, 0] rfl) hX
set_option maxRecDepth 100000 in
set_option maxHeartbeats 4000000 in
theorem w_X12_becomes_e {p : Program} {l : Launch} {e : Env} {s : State} {m : MethodId} {args : Array Value} {below : List Frame} {meth : Method} {c : Code} {D : va_G} {ks : Nat → ClassId} {L : List Nat} {r : Int32} {h' : mh_H} (cx : mh_C p m c cX12_becomes 3 s args RX12 meth D ks (mh_A L s.heap.size)) (hr : meth.sig.returnType = (some .int)) :
    ∀ (o0 : Nat) (x1 : Int32) (h : mh_H) (H : Heap) (locs : List Loc) (ls : Array Slot), mh_W D ks L (mh_A L s.heap.size) s.heap h H locs → lv_has ls 3 [(0, .ref o0), (1, .int x1)] → f_X12_becomes_e o0 x1 h = some (r, h') → W p l e (mh_rm 1) s m args below meth c H locs 0 0 (MQ below (mh_Qi D ks L s.heap.size r h') args s 0 0 (mh_A L s.heap.size)) (F0 m 0 ls []) := by
  intro o0 x1 h H locs ls wd hl hX
  have hx := cx.1.1
  have hb := cx.1.2.1
  unfold f_X12_becomes_e at hX
  refine lv_aload_n hx hb dX12_becomes_0 rfl (lv_at hl 0 rfl) ?_
  refine mh_getR cx wd fl_X12_9 dX12_becomes_1 hX (fun a11 hX => ?_)
  refine lv_iload_n hx hb dX12_becomes_4 rfl (lv_at hl 1 rfl) ?_
  refine mh_callSI cx wd [.int x1] yw_X12_mintAt sw_X12_115 rfl hl.1 rfl (Nat.le_of_ble_eq_true rfl) dX12_becomes_5 ⟨Nat.le_of_ble_eq_true rfl, Nat.le_of_ble_eq_true rfl⟩ ⟨Nat.le_refl _, Nat.le_refl _⟩ (fun _ _ q => c_X12_mintAt q) hX (fun v13 h12 H locs wd hX => ?_)
  refine lv_aload_n hx hb dX12_becomes_8 rfl (lv_at hl 0 rfl) ?_
  refine mh_getI cx wd fl_X12_181 dX12_becomes_9 hX (fun v14 hX => ?_)
  refine mh_iast cx wd dX12_becomes_12 hX (fun h15 H locs wd hX => ?_)
  refine lv_iconst (v := 0) hx hb dX12_becomes_13 (by decide) ?_
  refine mh_topi hX (fun v16 hX => ?_)
  refine lv_istore_n (lv' := [(2, .int v16), (0, .ref o0), (1, .int x1)]) hx hb dX12_becomes_14 rfl hl (Nat.le_of_ble_eq_true rfl) rfl (fun ls hl => ?_)
  exact w_X12_becomes_b15 cx hr mh_fu _ _ _ h15 _ _ ls wd (lv_sub hl [1, 2, 0] rfl) hX
set_option maxRecDepth 100000 in
theorem c_X12_becomes {l : Launch} {L : List Nat} {h h' : mh_H} {r : Int32} {o0 : Nat} {x1 : Int32} (hX : f_X12_becomes_e o0 x1 h = some (r, h')) : mh_MI l yX12_becomes (Cond.code yX12_becomes cX12_becomes 3 (some .int) :: mh_TB) (mh_rm 1) [.ref o0, .int x1] L h r h' :=
  mh_of (mc := 0) (ms := 0) (Qc := fun D ks sz => mh_Qi D ks L sz r h') (plainFor_of_name (by decide)) (Nat.le_of_ble_eq_true rfl) (fun p e s m below meth c D ks ls hr cx wd hl => by
    have hl : lv_has ls 3 [(0, .ref o0), (1, .int x1)] := hl
    exact w_X12_becomes_e cx hr o0 x1 h _ _ ls wd hl hX)
def f_X12_join_b26 (o0 : Nat) (h : mh_H) : Option (Int32 × mh_H) :=
  mh_b2 (mh_cal h o0 12 (f_X12_fail_e o0 (1 : Int32) h)) fun v2 h1 =>
  some (v2, h1)
def f_X12_join_b179 (k65 : Nat → Int32 → Int32 → Int32 → Int32 → Int32 → Int32 → Int32 → mh_H → Option (Int32 × mh_H)) (o0 : Nat) (x1 : Int32) (x2 : Int32) (x3 : Int32) (x4 : Int32) (x5 : Int32) (x6 : Int32) (x7 : Int32) (h : mh_H) : Option (Int32 × mh_H) :=
  k65 o0 x1 x2 x3 x4 x5 x6 x7 h
def f_X12_join_b169 (k65 : Nat → Int32 → Int32 → Int32 → Int32 → Int32 → Int32 → Int32 → mh_H → Option (Int32 × mh_H)) (o0 : Nat) (x1 : Int32) (x2 : Int32) (x3 : Int32) (x4 : Int32) (x5 : Int32) (x6 : Int32) (x7 : Int32) (x8 : Int32) (x9 : Int32) (h : mh_H) : Option (Int32 × mh_H) :=
  if x8 < x9 then (
  f_X12_join_b179 k65 o0 x1 x2 x3 x4 x5 x6 x7 h) else
  mh_nm (x5 + Int32.ofInt (1)) fun v3 =>
  f_X12_join_b179 k65 o0 x1 x2 x3 x4 v3 x6 x7 h
def f_X12_join_b131 (k65 : Nat → Int32 → Int32 → Int32 → Int32 → Int32 → Int32 → Int32 → mh_H → Option (Int32 × mh_H)) (o0 : Nat) (x1 : Int32) (x2 : Int32) (x3 : Int32) (x4 : Int32) (x5 : Int32) (x6 : Int32) (x7 : Int32) (x8 : Int32) (t0 : Int32) (h : mh_H) : Option (Int32 × mh_H) :=
  (mh_gR h o0 12 13).bind fun a4 =>
  (mh_gI h o0 12 14).bind fun v5 =>
  (mh_sI h a4 v5 (if t0 < x8 then t0 else x8)).bind fun h6 =>
  (mh_gI h6 o0 12 14).bind fun v7 =>
  (mh_pI h6 o0 12 14 (v7 + (1 : Int32))).bind fun h8 =>
  if t0 < x8 then (
  f_X12_join_b169 k65 o0 x1 x2 x3 x4 x5 x6 x7 x8 t0 h8) else
  mh_nm (x4 + Int32.ofInt (1)) fun v9 =>
  f_X12_join_b169 k65 o0 x1 x2 x3 v9 x5 x6 x7 x8 t0 h8
def f_X12_join_b104 (k65 : Nat → Int32 → Int32 → Int32 → Int32 → Int32 → Int32 → Int32 → mh_H → Option (Int32 × mh_H)) (o0 : Nat) (x1 : Int32) (x2 : Int32) (x3 : Int32) (x4 : Int32) (x5 : Int32) (x6 : Int32) (x7 : Int32) (t0 : Int32) (h : mh_H) : Option (Int32 × mh_H) :=
  if x7 < x5 then (
  f_X12_join_b131 k65 o0 x1 x2 x3 x4 x5 x6 x7 t0 (301 : Int32) h) else
  (mh_gR h o0 12 1).bind fun a10 =>
  mh_b2 (f_X12_mintAt_e x2 h) fun v12 h11 =>
  (mh_aI h11 a10 0 (v12 + x5)).bind fun v13 =>
  f_X12_join_b131 k65 o0 x1 x2 x3 x4 x5 x6 x7 t0 v13 h11
def f_X12_join_b79 (k65 : Nat → Int32 → Int32 → Int32 → Int32 → Int32 → Int32 → Int32 → mh_H → Option (Int32 × mh_H)) (o0 : Nat) (x1 : Int32) (x2 : Int32) (x3 : Int32) (x4 : Int32) (x5 : Int32) (x6 : Int32) (x7 : Int32) (h : mh_H) : Option (Int32 × mh_H) :=
  if x6 < x4 then (
  f_X12_join_b104 k65 o0 x1 x2 x3 x4 x5 x6 x7 (301 : Int32) h) else
  (mh_gR h o0 12 1).bind fun a14 =>
  mh_b2 (f_X12_mintAt_e x1 h) fun v16 h15 =>
  (mh_aI h15 a14 0 (v16 + x4)).bind fun v17 =>
  f_X12_join_b104 k65 o0 x1 x2 x3 x4 x5 x6 x7 v17 h15
def f_X12_join_b204 (t0 : Int32) (h : mh_H) : Option (Int32 × mh_H) :=
  some (t0, h)
def f_X12_join_b182 (o0 : Nat) (x3 : Int32) (h : mh_H) : Option (Int32 × mh_H) :=
  (mh_cal h o0 12 (f_X12_keepNeeded_e o0 h)).bind fun h18 =>
  (mh_gI h18 o0 12 14).bind fun v19 =>
  if v19 ≤ (12 : Int32) then (
  mh_b2 (mh_cal h18 o0 12 (f_X12_becomes_e o0 x3 h18)) fun v21 h20 =>
  f_X12_join_b204 v21 h20) else
  f_X12_join_b204 (-1 : Int32) h18
def f_X12_join_b65 : Nat → Nat → Int32 → Int32 → Int32 → Int32 → Int32 → Int32 → Int32 → mh_H → Option (Int32 × mh_H)
  | 0, _, _, _, _, _, _, _, _, _ => none
  | n + 1, o0, x1, x2, x3, x4, x5, x6, x7, h =>
    if x4 ≤ x6 then (
    f_X12_join_b79 (f_X12_join_b65 n) o0 x1 x2 x3 x4 x5 x6 x7 h) else
    if x7 < x5 then (
    f_X12_join_b182 o0 x3 h) else
    f_X12_join_b79 (f_X12_join_b65 n) o0 x1 x2 x3 x4 x5 x6 x7 h
def f_X12_join_e (o0 : Nat) (x1 : Int32) (x2 : Int32) (x3 : Int32) (h : mh_H) : Option (Int32 × mh_H) :=
  (mh_pI h o0 12 0 (0 : Int32)).bind fun h22 =>
  mh_b2 (f_X12_isMint_e x1 h22) fun v24 h23 =>
  if v24 = 0 then (
  f_X12_join_b26 o0 h23) else
  mh_b2 (f_X12_isMint_e x2 h23) fun v26 h25 =>
  if v26 = 0 then (
  f_X12_join_b26 o0 h25) else
  mh_b2 (f_X12_isMint_e x3 h25) fun v28 h27 =>
  if v28 = 0 then (
  f_X12_join_b26 o0 h27) else
  mh_nm (1 : Int32) fun v29 =>
  mh_nm (1 : Int32) fun v30 =>
  (mh_gR h27 o0 12 1).bind fun a31 =>
  mh_b2 (f_X12_mintAt_e x1 h27) fun v33 h32 =>
  (mh_aI h32 a31 0 v33).bind fun v34 =>
  (mh_gR h32 o0 12 1).bind fun a35 =>
  mh_b2 (f_X12_mintAt_e x2 h32) fun v37 h36 =>
  (mh_aI h36 a35 0 v37).bind fun v38 =>
  (mh_pI h36 o0 12 14 (0 : Int32)).bind fun h39 =>
  f_X12_join_b65 mh_fu o0 x1 x2 x3 v29 v30 v34 v38 h39
set_option maxRecDepth 100000 in
set_option maxHeartbeats 4000000 in
theorem w_X12_join_b26 {p : Program} {l : Launch} {e : Env} {s : State} {m : MethodId} {args : Array Value} {below : List Frame} {meth : Method} {c : Code} {D : va_G} {ks : Nat → ClassId} {L : List Nat} {r : Int32} {h' : mh_H} (cx : mh_C p m c cX12_join 10 s args RX12 meth D ks (mh_A L s.heap.size)) (hr : meth.sig.returnType = (some .int)) :
    ∀ (o0 : Nat) (h : mh_H) (H : Heap) (locs : List Loc) (ls : Array Slot), mh_W D ks L (mh_A L s.heap.size) s.heap h H locs → lv_has ls 10 [(0, .ref o0)] → f_X12_join_b26 o0 h = some (r, h') → W p l e (mh_rm 2) s m args below meth c H locs 0 0 (MQ below (mh_Qi D ks L s.heap.size r h') args s 0 0 (mh_A L s.heap.size)) (F0 m 26 ls []) := by
  intro o0 h H locs ls wd hl hX
  have hx := cx.1.1
  have hb := cx.1.2.1
  unfold f_X12_join_b26 at hX
  refine lv_aload_n hx hb dX12_join_26 rfl (lv_at hl 0 rfl) ?_
  refine lv_iconst (v := 1) hx hb dX12_join_27 (by decide) ?_
  refine mh_callVI cx wd [.int (1 : Int32)] (rfl : vwCl[12]? = some (RX12, TX12, 38)) yw_X12_fail vw_X12_122 rfl hl.1 rfl (Nat.le_of_ble_eq_true rfl) dX12_join_28 ⟨Nat.le_of_ble_eq_true rfl, Nat.le_of_ble_eq_true rfl⟩ ⟨Nat.le_refl _, Nat.le_refl _⟩ (fun _ _ q => c_X12_fail q) hX (fun v2 h1 H locs wd hX => ?_)
  exact mh_iret cx wd hr hX dX12_join_31
set_option maxRecDepth 100000 in
set_option maxHeartbeats 4000000 in
theorem w_X12_join_b179 {p : Program} {l : Launch} {e : Env} {s : State} {m : MethodId} {args : Array Value} {below : List Frame} {meth : Method} {c : Code} {D : va_G} {ks : Nat → ClassId} {L : List Nat} {r : Int32} {h' : mh_H} (k65 : Nat → Int32 → Int32 → Int32 → Int32 → Int32 → Int32 → Int32 → mh_H → Option (Int32 × mh_H)) (cx : mh_C p m c cX12_join 10 s args RX12 meth D ks (mh_A L s.heap.size)) (hr : meth.sig.returnType = (some .int))
    (hk65 : ∀ (o0 : Nat) (x1 : Int32) (x2 : Int32) (x3 : Int32) (x4 : Int32) (x5 : Int32) (x6 : Int32) (x7 : Int32) (h : mh_H) (H : Heap) (locs : List Loc) (ls : Array Slot), mh_W D ks L (mh_A L s.heap.size) s.heap h H locs → lv_has ls 10 [(0, .ref o0), (1, .int x1), (2, .int x2), (3, .int x3), (4, .int x4), (5, .int x5), (6, .int x6), (7, .int x7)] → k65 o0 x1 x2 x3 x4 x5 x6 x7 h = some (r, h') → W p l e (mh_rm 2) s m args below meth c H locs 0 0 (MQ below (mh_Qi D ks L s.heap.size r h') args s 0 0 (mh_A L s.heap.size)) (F0 m 65 ls [])) :
    ∀ (o0 : Nat) (x1 : Int32) (x2 : Int32) (x3 : Int32) (x4 : Int32) (x5 : Int32) (x6 : Int32) (x7 : Int32) (h : mh_H) (H : Heap) (locs : List Loc) (ls : Array Slot), mh_W D ks L (mh_A L s.heap.size) s.heap h H locs → lv_has ls 10 [(0, .ref o0), (1, .int x1), (2, .int x2), (3, .int x3), (4, .int x4), (5, .int x5), (6, .int x6), (7, .int x7)] → f_X12_join_b179 k65 o0 x1 x2 x3 x4 x5 x6 x7 h = some (r, h') → W p l e (mh_rm 2) s m args below meth c H locs 0 0 (MQ below (mh_Qi D ks L s.heap.size r h') args s 0 0 (mh_A L s.heap.size)) (F0 m 179 ls []) := by
  intro o0 x1 x2 x3 x4 x5 x6 x7 h H locs ls wd hl hX
  have hx := cx.1.1
  have hb := cx.1.2.1
  unfold f_X12_join_b179 at hX
  refine lv_goto (tgt := 65) hx hb dX12_join_179 rfl ?_
  exact hk65 _ _ _ _ _ _ _ _ h _ _ ls wd (lv_sub hl [0, 1, 2, 3, 4, 5, 6, 7] rfl) hX
set_option maxRecDepth 100000 in
set_option maxHeartbeats 4000000 in
theorem w_X12_join_b169 {p : Program} {l : Launch} {e : Env} {s : State} {m : MethodId} {args : Array Value} {below : List Frame} {meth : Method} {c : Code} {D : va_G} {ks : Nat → ClassId} {L : List Nat} {r : Int32} {h' : mh_H} (k65 : Nat → Int32 → Int32 → Int32 → Int32 → Int32 → Int32 → Int32 → mh_H → Option (Int32 × mh_H)) (cx : mh_C p m c cX12_join 10 s args RX12 meth D ks (mh_A L s.heap.size)) (hr : meth.sig.returnType = (some .int))
    (hk65 : ∀ (o0 : Nat) (x1 : Int32) (x2 : Int32) (x3 : Int32) (x4 : Int32) (x5 : Int32) (x6 : Int32) (x7 : Int32) (h : mh_H) (H : Heap) (locs : List Loc) (ls : Array Slot), mh_W D ks L (mh_A L s.heap.size) s.heap h H locs → lv_has ls 10 [(0, .ref o0), (1, .int x1), (2, .int x2), (3, .int x3), (4, .int x4), (5, .int x5), (6, .int x6), (7, .int x7)] → k65 o0 x1 x2 x3 x4 x5 x6 x7 h = some (r, h') → W p l e (mh_rm 2) s m args below meth c H locs 0 0 (MQ below (mh_Qi D ks L s.heap.size r h') args s 0 0 (mh_A L s.heap.size)) (F0 m 65 ls [])) :
    ∀ (o0 : Nat) (x1 : Int32) (x2 : Int32) (x3 : Int32) (x4 : Int32) (x5 : Int32) (x6 : Int32) (x7 : Int32) (x8 : Int32) (x9 : Int32) (h : mh_H) (H : Heap) (locs : List Loc) (ls : Array Slot), mh_W D ks L (mh_A L s.heap.size) s.heap h H locs → lv_has ls 10 [(0, .ref o0), (1, .int x1), (2, .int x2), (3, .int x3), (4, .int x4), (5, .int x5), (6, .int x6), (7, .int x7), (8, .int x8), (9, .int x9)] → f_X12_join_b169 k65 o0 x1 x2 x3 x4 x5 x6 x7 x8 x9 h = some (r, h') → W p l e (mh_rm 2) s m args below meth c H locs 0 0 (MQ below (mh_Qi D ks L s.heap.size r h') args s 0 0 (mh_A L s.heap.size)) (F0 m 169 ls []) := by
  intro o0 x1 x2 x3 x4 x5 x6 x7 x8 x9 h H locs ls wd hl hX
  have hx := cx.1.1
  have hb := cx.1.2.1
  unfold f_X12_join_b169 at hX
  refine lv_iload hx hb dX12_join_169 (lv_at hl 9 rfl) ?_
  refine lv_iload hx hb dX12_join_171 (lv_at hl 8 rfl) ?_
  refine lv_icmp_gt (tgt := 179) hx hb dX12_join_173 rfl (fun hc => (fun hX => ?_) ((mh_if hX).1 hc)) (fun hc => (fun hX => ?_) ((mh_if hX).2 hc))
  · exact w_X12_join_b179 k65 cx hr hk65 _ _ _ _ _ _ _ _ h _ _ ls wd (lv_sub hl [0, 1, 2, 3, 4, 5, 6, 7] rfl) hX
  · obtain ⟨v3, ev3, hX⟩ := mh_nmx hX
    refine lv_iinc (k := 5) (v := v3) (lv' := [(5, .int v3), (0, .ref o0), (1, .int x1), (2, .int x2), (3, .int x3), (4, .int x4), (6, .int x6), (7, .int x7), (8, .int x8), (9, .int x9)]) hx hb dX12_join_176 hl rfl ev3 (Nat.le_of_ble_eq_true rfl) rfl (fun ls hl => ?_)
    exact w_X12_join_b179 k65 cx hr hk65 _ _ _ _ _ _ _ _ h _ _ ls wd (lv_sub hl [1, 2, 3, 4, 5, 0, 6, 7] rfl) hX
set_option maxRecDepth 100000 in
set_option maxHeartbeats 4000000 in
theorem w_X12_join_b131 {p : Program} {l : Launch} {e : Env} {s : State} {m : MethodId} {args : Array Value} {below : List Frame} {meth : Method} {c : Code} {D : va_G} {ks : Nat → ClassId} {L : List Nat} {r : Int32} {h' : mh_H} (k65 : Nat → Int32 → Int32 → Int32 → Int32 → Int32 → Int32 → Int32 → mh_H → Option (Int32 × mh_H)) (cx : mh_C p m c cX12_join 10 s args RX12 meth D ks (mh_A L s.heap.size)) (hr : meth.sig.returnType = (some .int))
    (hk65 : ∀ (o0 : Nat) (x1 : Int32) (x2 : Int32) (x3 : Int32) (x4 : Int32) (x5 : Int32) (x6 : Int32) (x7 : Int32) (h : mh_H) (H : Heap) (locs : List Loc) (ls : Array Slot), mh_W D ks L (mh_A L s.heap.size) s.heap h H locs → lv_has ls 10 [(0, .ref o0), (1, .int x1), (2, .int x2), (3, .int x3), (4, .int x4), (5, .int x5), (6, .int x6), (7, .int x7)] → k65 o0 x1 x2 x3 x4 x5 x6 x7 h = some (r, h') → W p l e (mh_rm 2) s m args below meth c H locs 0 0 (MQ below (mh_Qi D ks L s.heap.size r h') args s 0 0 (mh_A L s.heap.size)) (F0 m 65 ls [])) :
    ∀ (o0 : Nat) (x1 : Int32) (x2 : Int32) (x3 : Int32) (x4 : Int32) (x5 : Int32) (x6 : Int32) (x7 : Int32) (x8 : Int32) (t0 : Int32) (h : mh_H) (H : Heap) (locs : List Loc) (ls : Array Slot), mh_W D ks L (mh_A L s.heap.size) s.heap h H locs → lv_has ls 10 [(0, .ref o0), (1, .int x1), (2, .int x2), (3, .int x3), (4, .int x4), (5, .int x5), (6, .int x6), (7, .int x7), (8, .int x8)] → f_X12_join_b131 k65 o0 x1 x2 x3 x4 x5 x6 x7 x8 t0 h = some (r, h') → W p l e (mh_rm 2) s m args below meth c H locs 0 0 (MQ below (mh_Qi D ks L s.heap.size r h') args s 0 0 (mh_A L s.heap.size)) (F0 m 131 ls [.int t0]) := by
  intro o0 x1 x2 x3 x4 x5 x6 x7 x8 t0 h H locs ls wd hl hX
  have hx := cx.1.1
  have hb := cx.1.2.1
  unfold f_X12_join_b131 at hX
  refine lv_istore (lv' := [(9, .int t0), (0, .ref o0), (1, .int x1), (2, .int x2), (3, .int x3), (4, .int x4), (5, .int x5), (6, .int x6), (7, .int x7), (8, .int x8)]) hx hb dX12_join_131 hl (Nat.le_of_ble_eq_true rfl) rfl (fun ls hl => ?_)
  refine lv_aload_n hx hb dX12_join_133 rfl (lv_at hl 1 rfl) ?_
  refine mh_getR cx wd fl_X12_45 dX12_join_134 hX (fun a4 hX => ?_)
  refine lv_aload_n hx hb dX12_join_137 rfl (lv_at hl 1 rfl) ?_
  refine mh_getI cx wd fl_X12_181 dX12_join_138 hX (fun v5 hX => ?_)
  refine lv_iload hx hb dX12_join_141 (lv_at hl 9 rfl) ?_
  refine lv_iload hx hb dX12_join_143 (lv_at hl 0 rfl) ?_
  refine mh_mmin mh_Mok cx hl.1 km_X12_157 (Nat.le_of_ble_eq_true rfl) (Nat.le_of_ble_eq_true rfl) ⟨Nat.le_refl _, Nat.le_refl _⟩ dX12_join_145 ?_
  refine mh_iast cx wd dX12_join_148 hX (fun h6 H locs wd hX => ?_)
  refine lv_aload_n hx hb dX12_join_149 rfl (lv_at hl 1 rfl) ?_
  refine lv_dup hx hb dX12_join_150 rfl ?_
  refine mh_getI cx wd fl_X12_181 dX12_join_151 hX (fun v7 hX => ?_)
  refine lv_iconst (v := 1) hx hb dX12_join_154 (by decide) ?_
  refine lv_iadd hx hb dX12_join_155 ?_
  refine mh_putI cx wd fp_X12_181 dX12_join_156 hX (fun h8 H locs wd hX => ?_)
  refine lv_iload hx hb dX12_join_159 (lv_at hl 9 rfl) ?_
  refine lv_iload hx hb dX12_join_161 (lv_at hl 0 rfl) ?_
  refine lv_icmp_gt (tgt := 169) hx hb dX12_join_163 rfl (fun hc => (fun hX => ?_) ((mh_if hX).1 hc)) (fun hc => (fun hX => ?_) ((mh_if hX).2 hc))
  · exact w_X12_join_b169 k65 cx hr hk65 _ _ _ _ _ _ _ _ _ _ h8 _ _ ls wd (lv_sub hl [1, 2, 3, 4, 5, 6, 7, 8, 9, 0] rfl) hX
  · obtain ⟨v9, ev9, hX⟩ := mh_nmx hX
    refine lv_iinc (k := 5) (v := v9) (lv' := [(4, .int v9), (9, .int t0), (0, .ref o0), (1, .int x1), (2, .int x2), (3, .int x3), (5, .int x5), (6, .int x6), (7, .int x7), (8, .int x8)]) hx hb dX12_join_166 hl rfl ev9 (Nat.le_of_ble_eq_true rfl) rfl (fun ls hl => ?_)
    exact w_X12_join_b169 k65 cx hr hk65 _ _ _ _ _ _ _ _ _ _ h8 _ _ ls wd (lv_sub hl [2, 3, 4, 5, 0, 6, 7, 8, 9, 1] rfl) hX
set_option maxRecDepth 100000 in
set_option maxHeartbeats 4000000 in
theorem w_X12_join_b104 {p : Program} {l : Launch} {e : Env} {s : State} {m : MethodId} {args : Array Value} {below : List Frame} {meth : Method} {c : Code} {D : va_G} {ks : Nat → ClassId} {L : List Nat} {r : Int32} {h' : mh_H} (k65 : Nat → Int32 → Int32 → Int32 → Int32 → Int32 → Int32 → Int32 → mh_H → Option (Int32 × mh_H)) (cx : mh_C p m c cX12_join 10 s args RX12 meth D ks (mh_A L s.heap.size)) (hr : meth.sig.returnType = (some .int))
    (hk65 : ∀ (o0 : Nat) (x1 : Int32) (x2 : Int32) (x3 : Int32) (x4 : Int32) (x5 : Int32) (x6 : Int32) (x7 : Int32) (h : mh_H) (H : Heap) (locs : List Loc) (ls : Array Slot), mh_W D ks L (mh_A L s.heap.size) s.heap h H locs → lv_has ls 10 [(0, .ref o0), (1, .int x1), (2, .int x2), (3, .int x3), (4, .int x4), (5, .int x5), (6, .int x6), (7, .int x7)] → k65 o0 x1 x2 x3 x4 x5 x6 x7 h = some (r, h') → W p l e (mh_rm 2) s m args below meth c H locs 0 0 (MQ below (mh_Qi D ks L s.heap.size r h') args s 0 0 (mh_A L s.heap.size)) (F0 m 65 ls [])) :
    ∀ (o0 : Nat) (x1 : Int32) (x2 : Int32) (x3 : Int32) (x4 : Int32) (x5 : Int32) (x6 : Int32) (x7 : Int32) (t0 : Int32) (h : mh_H) (H : Heap) (locs : List Loc) (ls : Array Slot), mh_W D ks L (mh_A L s.heap.size) s.heap h H locs → lv_has ls 10 [(0, .ref o0), (1, .int x1), (2, .int x2), (3, .int x3), (4, .int x4), (5, .int x5), (6, .int x6), (7, .int x7)] → f_X12_join_b104 k65 o0 x1 x2 x3 x4 x5 x6 x7 t0 h = some (r, h') → W p l e (mh_rm 2) s m args below meth c H locs 0 0 (MQ below (mh_Qi D ks L s.heap.size r h') args s 0 0 (mh_A L s.heap.size)) (F0 m 104 ls [.int t0]) := by
  intro o0 x1 x2 x3 x4 x5 x6 x7 t0 h H locs ls wd hl hX
  have hx := cx.1.1
  have hb := cx.1.2.1
  unfold f_X12_join_b104 at hX
  refine lv_istore (lv' := [(8, .int t0), (0, .ref o0), (1, .int x1), (2, .int x2), (3, .int x3), (4, .int x4), (5, .int x5), (6, .int x6), (7, .int x7)]) hx hb dX12_join_104 hl (Nat.le_of_ble_eq_true rfl) rfl (fun ls hl => ?_)
  refine lv_iload hx hb dX12_join_106 (lv_at hl 6 rfl) ?_
  refine lv_iload hx hb dX12_join_108 (lv_at hl 8 rfl) ?_
  refine lv_icmp_gt (tgt := 128) hx hb dX12_join_110 rfl (fun hc => (fun hX => ?_) ((mh_if hX).1 hc)) (fun hc => (fun hX => ?_) ((mh_if hX).2 hc))
  · refine lv_sipush (v := 301) hx hb dX12_join_128 (by decide) ?_
    exact w_X12_join_b131 k65 cx hr hk65 _ _ _ _ _ _ _ _ _ _ h _ _ ls wd (lv_sub hl [1, 2, 3, 4, 5, 6, 7, 8, 0] rfl) hX
  · refine lv_aload_n hx hb dX12_join_113 rfl (lv_at hl 1 rfl) ?_
    refine mh_getR cx wd fl_X12_9 dX12_join_114 hX (fun a10 hX => ?_)
    refine lv_iload_n hx hb dX12_join_117 rfl (lv_at hl 3 rfl) ?_
    refine mh_callSI cx wd [.int x2] yw_X12_mintAt sw_X12_115 rfl hl.1 rfl (Nat.le_of_ble_eq_true rfl) dX12_join_118 ⟨Nat.le_of_ble_eq_true rfl, Nat.le_of_ble_eq_true rfl⟩ ⟨Nat.le_refl _, Nat.le_refl _⟩ (fun _ _ q => c_X12_mintAt q) hX (fun v12 h11 H locs wd hX => ?_)
    refine lv_iload hx hb dX12_join_121 (lv_at hl 6 rfl) ?_
    refine lv_iadd hx hb dX12_join_123 ?_
    refine mh_iald cx wd dX12_join_124 hX (fun v13 hX => ?_)
    refine lv_goto (tgt := 131) hx hb dX12_join_125 rfl ?_
    exact w_X12_join_b131 k65 cx hr hk65 _ _ _ _ _ _ _ _ _ _ h11 _ _ ls wd (lv_sub hl [1, 2, 3, 4, 5, 6, 7, 8, 0] rfl) hX
set_option maxRecDepth 100000 in
set_option maxHeartbeats 4000000 in
theorem w_X12_join_b79 {p : Program} {l : Launch} {e : Env} {s : State} {m : MethodId} {args : Array Value} {below : List Frame} {meth : Method} {c : Code} {D : va_G} {ks : Nat → ClassId} {L : List Nat} {r : Int32} {h' : mh_H} (k65 : Nat → Int32 → Int32 → Int32 → Int32 → Int32 → Int32 → Int32 → mh_H → Option (Int32 × mh_H)) (cx : mh_C p m c cX12_join 10 s args RX12 meth D ks (mh_A L s.heap.size)) (hr : meth.sig.returnType = (some .int))
    (hk65 : ∀ (o0 : Nat) (x1 : Int32) (x2 : Int32) (x3 : Int32) (x4 : Int32) (x5 : Int32) (x6 : Int32) (x7 : Int32) (h : mh_H) (H : Heap) (locs : List Loc) (ls : Array Slot), mh_W D ks L (mh_A L s.heap.size) s.heap h H locs → lv_has ls 10 [(0, .ref o0), (1, .int x1), (2, .int x2), (3, .int x3), (4, .int x4), (5, .int x5), (6, .int x6), (7, .int x7)] → k65 o0 x1 x2 x3 x4 x5 x6 x7 h = some (r, h') → W p l e (mh_rm 2) s m args below meth c H locs 0 0 (MQ below (mh_Qi D ks L s.heap.size r h') args s 0 0 (mh_A L s.heap.size)) (F0 m 65 ls [])) :
    ∀ (o0 : Nat) (x1 : Int32) (x2 : Int32) (x3 : Int32) (x4 : Int32) (x5 : Int32) (x6 : Int32) (x7 : Int32) (h : mh_H) (H : Heap) (locs : List Loc) (ls : Array Slot), mh_W D ks L (mh_A L s.heap.size) s.heap h H locs → lv_has ls 10 [(0, .ref o0), (1, .int x1), (2, .int x2), (3, .int x3), (4, .int x4), (5, .int x5), (6, .int x6), (7, .int x7)] → f_X12_join_b79 k65 o0 x1 x2 x3 x4 x5 x6 x7 h = some (r, h') → W p l e (mh_rm 2) s m args below meth c H locs 0 0 (MQ below (mh_Qi D ks L s.heap.size r h') args s 0 0 (mh_A L s.heap.size)) (F0 m 79 ls []) := by
  intro o0 x1 x2 x3 x4 x5 x6 x7 h H locs ls wd hl hX
  have hx := cx.1.1
  have hb := cx.1.2.1
  unfold f_X12_join_b79 at hX
  refine lv_iload hx hb dX12_join_79 (lv_at hl 4 rfl) ?_
  refine lv_iload hx hb dX12_join_81 (lv_at hl 6 rfl) ?_
  refine lv_icmp_gt (tgt := 101) hx hb dX12_join_83 rfl (fun hc => (fun hX => ?_) ((mh_if hX).1 hc)) (fun hc => (fun hX => ?_) ((mh_if hX).2 hc))
  · refine lv_sipush (v := 301) hx hb dX12_join_101 (by decide) ?_
    exact w_X12_join_b104 k65 cx hr hk65 _ _ _ _ _ _ _ _ _ h _ _ ls wd (lv_sub hl [0, 1, 2, 3, 4, 5, 6, 7] rfl) hX
  · refine lv_aload_n hx hb dX12_join_86 rfl (lv_at hl 0 rfl) ?_
    refine mh_getR cx wd fl_X12_9 dX12_join_87 hX (fun a14 hX => ?_)
    refine lv_iload_n hx hb dX12_join_90 rfl (lv_at hl 1 rfl) ?_
    refine mh_callSI cx wd [.int x1] yw_X12_mintAt sw_X12_115 rfl hl.1 rfl (Nat.le_of_ble_eq_true rfl) dX12_join_91 ⟨Nat.le_of_ble_eq_true rfl, Nat.le_of_ble_eq_true rfl⟩ ⟨Nat.le_refl _, Nat.le_refl _⟩ (fun _ _ q => c_X12_mintAt q) hX (fun v16 h15 H locs wd hX => ?_)
    refine lv_iload hx hb dX12_join_94 (lv_at hl 4 rfl) ?_
    refine lv_iadd hx hb dX12_join_96 ?_
    refine mh_iald cx wd dX12_join_97 hX (fun v17 hX => ?_)
    refine lv_goto (tgt := 104) hx hb dX12_join_98 rfl ?_
    exact w_X12_join_b104 k65 cx hr hk65 _ _ _ _ _ _ _ _ _ h15 _ _ ls wd (lv_sub hl [0, 1, 2, 3, 4, 5, 6, 7] rfl) hX
set_option maxRecDepth 100000 in
set_option maxHeartbeats 4000000 in
theorem w_X12_join_b204 {p : Program} {l : Launch} {e : Env} {s : State} {m : MethodId} {args : Array Value} {below : List Frame} {meth : Method} {c : Code} {D : va_G} {ks : Nat → ClassId} {L : List Nat} {r : Int32} {h' : mh_H} (cx : mh_C p m c cX12_join 10 s args RX12 meth D ks (mh_A L s.heap.size)) (hr : meth.sig.returnType = (some .int)) :
    ∀ (t0 : Int32) (h : mh_H) (H : Heap) (locs : List Loc) (ls : Array Slot), mh_W D ks L (mh_A L s.heap.size) s.heap h H locs → lv_has ls 10 [] → f_X12_join_b204 t0 h = some (r, h') → W p l e (mh_rm 2) s m args below meth c H locs 0 0 (MQ below (mh_Qi D ks L s.heap.size r h') args s 0 0 (mh_A L s.heap.size)) (F0 m 204 ls [.int t0]) := by
  intro t0 h H locs ls wd hl hX
  have hx := cx.1.1
  have hb := cx.1.2.1
  unfold f_X12_join_b204 at hX
  exact mh_iret cx wd hr hX dX12_join_204
set_option maxRecDepth 100000 in
set_option maxHeartbeats 4000000 in
theorem w_X12_join_b182 {p : Program} {l : Launch} {e : Env} {s : State} {m : MethodId} {args : Array Value} {below : List Frame} {meth : Method} {c : Code} {D : va_G} {ks : Nat → ClassId} {L : List Nat} {r : Int32} {h' : mh_H} (cx : mh_C p m c cX12_join 10 s args RX12 meth D ks (mh_A L s.heap.size)) (hr : meth.sig.returnType = (some .int)) :
    ∀ (o0 : Nat) (x3 : Int32) (h : mh_H) (H : Heap) (locs : List Loc) (ls : Array Slot), mh_W D ks L (mh_A L s.heap.size) s.heap h H locs → lv_has ls 10 [(0, .ref o0), (3, .int x3)] → f_X12_join_b182 o0 x3 h = some (r, h') → W p l e (mh_rm 2) s m args below meth c H locs 0 0 (MQ below (mh_Qi D ks L s.heap.size r h') args s 0 0 (mh_A L s.heap.size)) (F0 m 182 ls []) := by
  intro o0 x3 h H locs ls wd hl hX
  have hx := cx.1.1
  have hb := cx.1.2.1
  unfold f_X12_join_b182 at hX
  refine lv_aload_n hx hb dX12_join_182 rfl (lv_at hl 0 rfl) ?_
  refine mh_callVV cx wd [] (rfl : vwCl[12]? = some (RX12, TX12, 38)) yw_X12_keepNeeded vw_X12_187 rfl hl.1 rfl (Nat.le_of_ble_eq_true rfl) dX12_join_183 ⟨Nat.le_of_ble_eq_true rfl, Nat.le_of_ble_eq_true rfl⟩ ⟨Nat.le_refl _, Nat.le_refl _⟩ (fun _ q => c_X12_keepNeeded q) hX (fun h18 H locs wd hX => ?_)
  refine lv_aload_n hx hb dX12_join_186 rfl (lv_at hl 0 rfl) ?_
  refine mh_getI cx wd fl_X12_181 dX12_join_187 hX (fun v19 hX => ?_)
  refine lv_bipush (v := 12) hx hb dX12_join_190 (by decide) ?_
  refine lv_icmp_le (tgt := 199) hx hb dX12_join_192 rfl (fun hc => (fun hX => ?_) ((mh_if hX).1 hc)) (fun hc => (fun hX => ?_) ((mh_if hX).2 hc))
  · refine lv_aload_n hx hb dX12_join_199 rfl (lv_at hl 0 rfl) ?_
    refine lv_iload_n hx hb dX12_join_200 rfl (lv_at hl 1 rfl) ?_
    refine mh_callVI cx wd [.int x3] (rfl : vwCl[12]? = some (RX12, TX12, 38)) yw_X12_becomes vw_X12_190 rfl hl.1 rfl (Nat.le_of_ble_eq_true rfl) dX12_join_201 ⟨Nat.le_of_ble_eq_true rfl, Nat.le_of_ble_eq_true rfl⟩ ⟨Nat.le_refl _, Nat.le_refl _⟩ (fun _ _ q => c_X12_becomes q) hX (fun v21 h20 H locs wd hX => ?_)
    exact w_X12_join_b204 cx hr _ h20 _ _ ls wd (lv_sub hl [] rfl) hX
  · refine lv_iconst (v := (-1)) hx hb dX12_join_195 (by decide) ?_
    refine lv_goto (tgt := 204) hx hb dX12_join_196 rfl ?_
    exact w_X12_join_b204 cx hr _ h18 _ _ ls wd (lv_sub hl [] rfl) hX
set_option maxRecDepth 100000 in
set_option maxHeartbeats 4000000 in
theorem w_X12_join_b65 {p : Program} {l : Launch} {e : Env} {s : State} {m : MethodId} {args : Array Value} {below : List Frame} {meth : Method} {c : Code} {D : va_G} {ks : Nat → ClassId} {L : List Nat} {r : Int32} {h' : mh_H} (cx : mh_C p m c cX12_join 10 s args RX12 meth D ks (mh_A L s.heap.size)) (hr : meth.sig.returnType = (some .int)) :
    ∀ n : Nat, ∀ (o0 : Nat) (x1 : Int32) (x2 : Int32) (x3 : Int32) (x4 : Int32) (x5 : Int32) (x6 : Int32) (x7 : Int32) (h : mh_H) (H : Heap) (locs : List Loc) (ls : Array Slot), mh_W D ks L (mh_A L s.heap.size) s.heap h H locs → lv_has ls 10 [(0, .ref o0), (1, .int x1), (2, .int x2), (3, .int x3), (4, .int x4), (5, .int x5), (6, .int x6), (7, .int x7)] → f_X12_join_b65 n o0 x1 x2 x3 x4 x5 x6 x7 h = some (r, h') → W p l e (mh_rm 2) s m args below meth c H locs 0 0 (MQ below (mh_Qi D ks L s.heap.size r h') args s 0 0 (mh_A L s.heap.size)) (F0 m 65 ls []) := by
  intro n
  induction n with
  | zero =>
    intro o0 x1 x2 x3 x4 x5 x6 x7 h H locs ls wd hl hX
    cases hX
  | succ n ih =>
    intro o0 x1 x2 x3 x4 x5 x6 x7 h H locs ls wd hl hX
    have hx := cx.1.1
    have hb := cx.1.2.1
    rw [f_X12_join_b65] at hX
    refine lv_iload hx hb dX12_join_65 (lv_at hl 4 rfl) ?_
    refine lv_iload hx hb dX12_join_67 (lv_at hl 6 rfl) ?_
    refine lv_icmp_le (tgt := 79) hx hb dX12_join_69 rfl (fun hc => (fun hX => ?_) ((mh_if hX).1 hc)) (fun hc => (fun hX => ?_) ((mh_if hX).2 hc))
    · exact w_X12_join_b79 (f_X12_join_b65 n) cx hr ih _ _ _ _ _ _ _ _ h _ _ ls wd (lv_sub hl [0, 1, 2, 3, 4, 5, 6, 7] rfl) hX
    · refine lv_iload hx hb dX12_join_72 (lv_at hl 5 rfl) ?_
      refine lv_iload hx hb dX12_join_74 (lv_at hl 7 rfl) ?_
      refine lv_icmp_gt (tgt := 182) hx hb dX12_join_76 rfl (fun hc => (fun hX => ?_) ((mh_if hX).1 hc)) (fun hc => (fun hX => ?_) ((mh_if hX).2 hc))
      · exact w_X12_join_b182 cx hr _ _ h _ _ ls wd (lv_sub hl [0, 3] rfl) hX
      · exact w_X12_join_b79 (f_X12_join_b65 n) cx hr ih _ _ _ _ _ _ _ _ h _ _ ls wd (lv_sub hl [0, 1, 2, 3, 4, 5, 6, 7] rfl) hX
set_option maxRecDepth 100000 in
set_option maxHeartbeats 4000000 in
theorem w_X12_join_e {p : Program} {l : Launch} {e : Env} {s : State} {m : MethodId} {args : Array Value} {below : List Frame} {meth : Method} {c : Code} {D : va_G} {ks : Nat → ClassId} {L : List Nat} {r : Int32} {h' : mh_H} (cx : mh_C p m c cX12_join 10 s args RX12 meth D ks (mh_A L s.heap.size)) (hr : meth.sig.returnType = (some .int)) :
    ∀ (o0 : Nat) (x1 : Int32) (x2 : Int32) (x3 : Int32) (h : mh_H) (H : Heap) (locs : List Loc) (ls : Array Slot), mh_W D ks L (mh_A L s.heap.size) s.heap h H locs → lv_has ls 10 [(0, .ref o0), (1, .int x1), (2, .int x2), (3, .int x3)] → f_X12_join_e o0 x1 x2 x3 h = some (r, h') → W p l e (mh_rm 2) s m args below meth c H locs 0 0 (MQ below (mh_Qi D ks L s.heap.size r h') args s 0 0 (mh_A L s.heap.size)) (F0 m 0 ls []) := by
  intro o0 x1 x2 x3 h H locs ls wd hl hX
  have hx := cx.1.1
  have hb := cx.1.2.1
  unfold f_X12_join_e at hX
  refine lv_aload_n hx hb dX12_join_0 rfl (lv_at hl 0 rfl) ?_
  refine lv_iconst (v := 0) hx hb dX12_join_1 (by decide) ?_
  refine mh_putI cx wd fp_X12_96 dX12_join_2 hX (fun h22 H locs wd hX => ?_)
  refine lv_iload_n hx hb dX12_join_5 rfl (lv_at hl 1 rfl) ?_
  refine mh_callSI cx wd [.int x1] yw_X12_isMint sw_X12_111 rfl hl.1 rfl (Nat.le_of_ble_eq_true rfl) dX12_join_6 ⟨Nat.le_of_ble_eq_true rfl, Nat.le_of_ble_eq_true rfl⟩ ⟨Nat.le_refl _, Nat.le_refl _⟩ (fun _ _ q => c_X12_isMint q) hX (fun v24 h23 H locs wd hX => ?_)
  refine lv_if_eq (tgt := 26) hx hb dX12_join_9 rfl (fun hc => (fun hX => ?_) ((mh_if hX).1 hc)) (fun hc => (fun hX => ?_) ((mh_if hX).2 hc))
  · exact w_X12_join_b26 cx hr _ h23 _ _ ls wd (lv_sub hl [0] rfl) hX
  · refine lv_iload_n hx hb dX12_join_12 rfl (lv_at hl 2 rfl) ?_
    refine mh_callSI cx wd [.int x2] yw_X12_isMint sw_X12_111 rfl hl.1 rfl (Nat.le_of_ble_eq_true rfl) dX12_join_13 ⟨Nat.le_of_ble_eq_true rfl, Nat.le_of_ble_eq_true rfl⟩ ⟨Nat.le_refl _, Nat.le_refl _⟩ (fun _ _ q => c_X12_isMint q) hX (fun v26 h25 H locs wd hX => ?_)
    refine lv_if_eq (tgt := 26) hx hb dX12_join_16 rfl (fun hc => (fun hX => ?_) ((mh_if hX).1 hc)) (fun hc => (fun hX => ?_) ((mh_if hX).2 hc))
    · exact w_X12_join_b26 cx hr _ h25 _ _ ls wd (lv_sub hl [0] rfl) hX
    · refine lv_iload_n hx hb dX12_join_19 rfl (lv_at hl 3 rfl) ?_
      refine mh_callSI cx wd [.int x3] yw_X12_isMint sw_X12_111 rfl hl.1 rfl (Nat.le_of_ble_eq_true rfl) dX12_join_20 ⟨Nat.le_of_ble_eq_true rfl, Nat.le_of_ble_eq_true rfl⟩ ⟨Nat.le_refl _, Nat.le_refl _⟩ (fun _ _ q => c_X12_isMint q) hX (fun v28 h27 H locs wd hX => ?_)
      refine lv_if_ne (tgt := 32) hx hb dX12_join_23 rfl (fun hc => (fun hX => ?_) ((mh_if hX).2 hc)) (fun hc => (fun hX => ?_) ((mh_if hX).1 hc))
      · refine lv_iconst (v := 1) hx hb dX12_join_32 (by decide) ?_
        refine mh_topi hX (fun v29 hX => ?_)
        refine lv_istore (lv' := [(4, .int v29), (0, .ref o0), (1, .int x1), (2, .int x2), (3, .int x3)]) hx hb dX12_join_33 hl (Nat.le_of_ble_eq_true rfl) rfl (fun ls hl => ?_)
        refine lv_iconst (v := 1) hx hb dX12_join_35 (by decide) ?_
        refine mh_topi hX (fun v30 hX => ?_)
        refine lv_istore (lv' := [(5, .int v30), (4, .int v29), (0, .ref o0), (1, .int x1), (2, .int x2), (3, .int x3)]) hx hb dX12_join_36 hl (Nat.le_of_ble_eq_true rfl) rfl (fun ls hl => ?_)
        refine lv_aload_n hx hb dX12_join_38 rfl (lv_at hl 2 rfl) ?_
        refine mh_getR cx wd fl_X12_9 dX12_join_39 hX (fun a31 hX => ?_)
        refine lv_iload_n hx hb dX12_join_42 rfl (lv_at hl 3 rfl) ?_
        refine mh_callSI cx wd [.int x1] yw_X12_mintAt sw_X12_115 rfl hl.1 rfl (Nat.le_of_ble_eq_true rfl) dX12_join_43 ⟨Nat.le_of_ble_eq_true rfl, Nat.le_of_ble_eq_true rfl⟩ ⟨Nat.le_refl _, Nat.le_refl _⟩ (fun _ _ q => c_X12_mintAt q) hX (fun v33 h32 H locs wd hX => ?_)
        refine mh_iald cx wd dX12_join_46 hX (fun v34 hX => ?_)
        refine lv_istore (lv' := [(6, .int v34), (5, .int v30), (4, .int v29), (0, .ref o0), (1, .int x1), (2, .int x2), (3, .int x3)]) hx hb dX12_join_47 hl (Nat.le_of_ble_eq_true rfl) rfl (fun ls hl => ?_)
        refine lv_aload_n hx hb dX12_join_49 rfl (lv_at hl 3 rfl) ?_
        refine mh_getR cx wd fl_X12_9 dX12_join_50 hX (fun a35 hX => ?_)
        refine lv_iload_n hx hb dX12_join_53 rfl (lv_at hl 5 rfl) ?_
        refine mh_callSI cx wd [.int x2] yw_X12_mintAt sw_X12_115 rfl hl.1 rfl (Nat.le_of_ble_eq_true rfl) dX12_join_54 ⟨Nat.le_of_ble_eq_true rfl, Nat.le_of_ble_eq_true rfl⟩ ⟨Nat.le_refl _, Nat.le_refl _⟩ (fun _ _ q => c_X12_mintAt q) hX (fun v37 h36 H locs wd hX => ?_)
        refine mh_iald cx wd dX12_join_57 hX (fun v38 hX => ?_)
        refine lv_istore (lv' := [(7, .int v38), (6, .int v34), (5, .int v30), (4, .int v29), (0, .ref o0), (1, .int x1), (2, .int x2), (3, .int x3)]) hx hb dX12_join_58 hl (Nat.le_of_ble_eq_true rfl) rfl (fun ls hl => ?_)
        refine lv_aload_n hx hb dX12_join_60 rfl (lv_at hl 4 rfl) ?_
        refine lv_iconst (v := 0) hx hb dX12_join_61 (by decide) ?_
        refine mh_putI cx wd fp_X12_181 dX12_join_62 hX (fun h39 H locs wd hX => ?_)
        exact w_X12_join_b65 cx hr mh_fu _ _ _ _ _ _ _ _ h39 _ _ ls wd (lv_sub hl [4, 5, 6, 7, 3, 2, 1, 0] rfl) hX
      · exact w_X12_join_b26 cx hr _ h27 _ _ ls wd (lv_sub hl [0] rfl) hX
set_option maxRecDepth 100000 in
theorem c_X12_join {l : Launch} {L : List Nat} {h h' : mh_H} {r : Int32} {o0 : Nat} {x1 : Int32} {x2 : Int32} {x3 : Int32} (hX : f_X12_join_e o0 x1 x2 x3 h = some (r, h')) : mh_MI l yX12_join (Cond.code yX12_join cX12_join 10 (some .int) :: mh_TB) (mh_rm 2) [.ref o0, .int x1, .int x2, .int x3] L h r h' :=
  mh_of (mc := 0) (ms := 0) (Qc := fun D ks sz => mh_Qi D ks L sz r h') (plainFor_of_name (by decide)) (Nat.le_of_ble_eq_true rfl) (fun p e s m below meth c D ks ls hr cx wd hl => by
    have hl : lv_has ls 10 [(0, .ref o0), (1, .int x1), (2, .int x2), (3, .int x3)] := hl
    exact w_X12_join_e cx hr o0 x1 x2 x3 h _ _ ls wd hl hX)
def f_X12_spread_b19 (k2 : Nat → Int32 → Nat → Int32 → mh_H → Option mh_H) (o0 : Nat) (x1 : Int32) (o2 : Nat) (x3 : Int32) (t0 : Nat) (t1 : Int32) (t2 : Int32) (h : mh_H) : Option mh_H :=
  (mh_sZ h t0 t1 t2).bind fun h1 =>
  mh_nm (x3 + Int32.ofInt (1)) fun v2 =>
  k2 o0 x1 o2 v2 h1
def f_X12_spread_b90 (k58 : Nat → Int32 → Nat → Int32 → Int32 → Int32 → mh_H → Option mh_H) (o0 : Nat) (x1 : Int32) (o2 : Nat) (x3 : Int32) (x4 : Int32) (x5 : Int32) (t0 : Nat) (t1 : Int32) (t2 : Int32) (h : mh_H) : Option mh_H :=
  (mh_sZ h t0 t1 t2).bind fun h3 =>
  mh_nm (x5 + Int32.ofInt (1)) fun v4 =>
  k58 o0 x1 o2 x3 x4 v4 h3
def f_X12_spread_b85 (k90 : Nat → Int32 → Nat → Int32 → Int32 → Int32 → Nat → Int32 → Int32 → mh_H → Option mh_H) (o0 : Nat) (x1 : Int32) (o2 : Nat) (x3 : Int32) (x4 : Int32) (x5 : Int32) (t0 : Nat) (t1 : Int32) (h : mh_H) : Option mh_H :=
  k90 o0 x1 o2 x3 x4 x5 t0 t1 (1 : Int32) h
def f_X12_spread_b97 (k28 : Nat → Int32 → Nat → Int32 → mh_H → Option mh_H) (o0 : Nat) (x1 : Int32) (o2 : Nat) (x3 : Int32) (h : mh_H) : Option mh_H :=
  mh_nm (x3 + Int32.ofInt (1)) fun v5 =>
  k28 o0 x1 o2 v5 h
def f_X12_spread_b58 (k28 : Nat → Int32 → Nat → Int32 → mh_H → Option mh_H) : Nat → Nat → Int32 → Nat → Int32 → Int32 → Int32 → mh_H → Option mh_H
  | 0, _, _, _, _, _, _, _ => none
  | n + 1, o0, x1, o2, x3, x4, x5, h =>
    if (200000 : Int32) < x5 then (
    f_X12_spread_b97 k28 o0 x1 o2 x3 h) else
    (mh_aI h o2 2 x5).bind fun v6 =>
    if v6 = 0 then (
    (mh_aI h o2 2 (x5 - x4)).bind fun v7 =>
    if v7 = 0 then (
    f_X12_spread_b90 (f_X12_spread_b58 k28 n) o0 x1 o2 x3 x4 x5 o2 x5 (0 : Int32) h) else
    f_X12_spread_b85 (f_X12_spread_b90 (f_X12_spread_b58 k28 n)) o0 x1 o2 x3 x4 x5 o2 x5 h) else
    f_X12_spread_b85 (f_X12_spread_b90 (f_X12_spread_b58 k28 n)) o0 x1 o2 x3 x4 x5 o2 x5 h
def f_X12_spread_b103 (h : mh_H) : Option mh_H :=
  some h
def f_X12_spread_b28 : Nat → Nat → Int32 → Nat → Int32 → mh_H → Option mh_H
  | 0, _, _, _, _, _ => none
  | n + 1, o0, x1, o2, x3, h =>
    (mh_gR h o0 12 1).bind fun a8 =>
    mh_b2 (f_X12_mintAt_e x1 h) fun v10 h9 =>
    (mh_aI h9 a8 0 v10).bind fun v11 =>
    if v11 < x3 then (
    f_X12_spread_b103 h9) else
    (mh_gR h9 o0 12 1).bind fun a12 =>
    mh_b2 (f_X12_mintAt_e x1 h9) fun v14 h13 =>
    (mh_aI h13 a12 0 (v14 + x3)).bind fun v15 =>
    f_X12_spread_b58 (f_X12_spread_b28 n) mh_fu o0 x1 o2 x3 v15 v15 h13
def f_X12_spread_b26 (o0 : Nat) (x1 : Int32) (o2 : Nat) (h : mh_H) : Option mh_H :=
  mh_nm (1 : Int32) fun v16 =>
  f_X12_spread_b28 mh_fu o0 x1 o2 v16 h
def f_X12_spread_b2 : Nat → Nat → Int32 → Nat → Int32 → mh_H → Option mh_H
  | 0, _, _, _, _, _ => none
  | n + 1, o0, x1, o2, x3, h =>
    if (200000 : Int32) < x3 then (
    f_X12_spread_b26 o0 x1 o2 h) else
    if x3 = 0 then (
    f_X12_spread_b19 (f_X12_spread_b2 n) o0 x1 o2 x3 o2 x3 (1 : Int32) h) else
    f_X12_spread_b19 (f_X12_spread_b2 n) o0 x1 o2 x3 o2 x3 (0 : Int32) h
def f_X12_spread_e (o0 : Nat) (x1 : Int32) (o2 : Nat) (h : mh_H) : Option mh_H :=
  mh_nm (0 : Int32) fun v17 =>
  f_X12_spread_b2 mh_fu o0 x1 o2 v17 h
set_option maxRecDepth 100000 in
set_option maxHeartbeats 4000000 in
theorem w_X12_spread_b19 {p : Program} {l : Launch} {e : Env} {s : State} {m : MethodId} {args : Array Value} {below : List Frame} {meth : Method} {c : Code} {D : va_G} {ks : Nat → ClassId} {L : List Nat} {h' : mh_H} (k2 : Nat → Int32 → Nat → Int32 → mh_H → Option mh_H) (cx : mh_C p m c cX12_spread 6 s args RX12 meth D ks (mh_A L s.heap.size)) (hr : meth.sig.returnType = none)
    (hk2 : ∀ (o0 : Nat) (x1 : Int32) (o2 : Nat) (x3 : Int32) (h : mh_H) (H : Heap) (locs : List Loc) (ls : Array Slot), mh_W D ks L (mh_A L s.heap.size) s.heap h H locs → lv_has ls 6 [(0, .ref o0), (1, .int x1), (2, .ref o2), (3, .int x3)] → k2 o0 x1 o2 x3 h = some h' → W p l e (mh_rm 1) s m args below meth c H locs 0 0 (MQ below (mh_Qv D ks L s.heap.size h') args s 0 0 (mh_A L s.heap.size)) (F0 m 2 ls [])) :
    ∀ (o0 : Nat) (x1 : Int32) (o2 : Nat) (x3 : Int32) (t0 : Nat) (t1 : Int32) (t2 : Int32) (h : mh_H) (H : Heap) (locs : List Loc) (ls : Array Slot), mh_W D ks L (mh_A L s.heap.size) s.heap h H locs → lv_has ls 6 [(0, .ref o0), (1, .int x1), (2, .ref o2), (3, .int x3)] → f_X12_spread_b19 k2 o0 x1 o2 x3 t0 t1 t2 h = some h' → W p l e (mh_rm 1) s m args below meth c H locs 0 0 (MQ below (mh_Qv D ks L s.heap.size h') args s 0 0 (mh_A L s.heap.size)) (F0 m 19 ls [.int t2, .int t1, .ref t0]) := by
  intro o0 x1 o2 x3 t0 t1 t2 h H locs ls wd hl hX
  have hx := cx.1.1
  have hb := cx.1.2.1
  unfold f_X12_spread_b19 at hX
  refine mh_zast cx wd dX12_spread_19 hX (fun h1 H locs wd hX => ?_)
  obtain ⟨v2, ev2, hX⟩ := mh_nmx hX
  refine lv_iinc (k := 3) (v := v2) (lv' := [(3, .int v2), (0, .ref o0), (1, .int x1), (2, .ref o2)]) hx hb dX12_spread_20 hl rfl ev2 (Nat.le_of_ble_eq_true rfl) rfl (fun ls hl => ?_)
  refine lv_goto (tgt := 2) hx hb dX12_spread_23 rfl ?_
  exact hk2 _ _ _ _ h1 _ _ ls wd (lv_sub hl [1, 2, 3, 0] rfl) hX
set_option maxRecDepth 100000 in
set_option maxHeartbeats 4000000 in
theorem w_X12_spread_b90 {p : Program} {l : Launch} {e : Env} {s : State} {m : MethodId} {args : Array Value} {below : List Frame} {meth : Method} {c : Code} {D : va_G} {ks : Nat → ClassId} {L : List Nat} {h' : mh_H} (k58 : Nat → Int32 → Nat → Int32 → Int32 → Int32 → mh_H → Option mh_H) (cx : mh_C p m c cX12_spread 6 s args RX12 meth D ks (mh_A L s.heap.size)) (hr : meth.sig.returnType = none)
    (hk58 : ∀ (o0 : Nat) (x1 : Int32) (o2 : Nat) (x3 : Int32) (x4 : Int32) (x5 : Int32) (h : mh_H) (H : Heap) (locs : List Loc) (ls : Array Slot), mh_W D ks L (mh_A L s.heap.size) s.heap h H locs → lv_has ls 6 [(0, .ref o0), (1, .int x1), (2, .ref o2), (3, .int x3), (4, .int x4), (5, .int x5)] → k58 o0 x1 o2 x3 x4 x5 h = some h' → W p l e (mh_rm 1) s m args below meth c H locs 0 0 (MQ below (mh_Qv D ks L s.heap.size h') args s 0 0 (mh_A L s.heap.size)) (F0 m 58 ls [])) :
    ∀ (o0 : Nat) (x1 : Int32) (o2 : Nat) (x3 : Int32) (x4 : Int32) (x5 : Int32) (t0 : Nat) (t1 : Int32) (t2 : Int32) (h : mh_H) (H : Heap) (locs : List Loc) (ls : Array Slot), mh_W D ks L (mh_A L s.heap.size) s.heap h H locs → lv_has ls 6 [(0, .ref o0), (1, .int x1), (2, .ref o2), (3, .int x3), (4, .int x4), (5, .int x5)] → f_X12_spread_b90 k58 o0 x1 o2 x3 x4 x5 t0 t1 t2 h = some h' → W p l e (mh_rm 1) s m args below meth c H locs 0 0 (MQ below (mh_Qv D ks L s.heap.size h') args s 0 0 (mh_A L s.heap.size)) (F0 m 90 ls [.int t2, .int t1, .ref t0]) := by
  intro o0 x1 o2 x3 x4 x5 t0 t1 t2 h H locs ls wd hl hX
  have hx := cx.1.1
  have hb := cx.1.2.1
  unfold f_X12_spread_b90 at hX
  refine mh_zast cx wd dX12_spread_90 hX (fun h3 H locs wd hX => ?_)
  obtain ⟨v4, ev4, hX⟩ := mh_nmx hX
  refine lv_iinc (k := 5) (v := v4) (lv' := [(5, .int v4), (0, .ref o0), (1, .int x1), (2, .ref o2), (3, .int x3), (4, .int x4)]) hx hb dX12_spread_91 hl rfl ev4 (Nat.le_of_ble_eq_true rfl) rfl (fun ls hl => ?_)
  refine lv_goto (tgt := 58) hx hb dX12_spread_94 rfl ?_
  exact hk58 _ _ _ _ _ _ h3 _ _ ls wd (lv_sub hl [1, 2, 3, 4, 5, 0] rfl) hX
set_option maxRecDepth 100000 in
set_option maxHeartbeats 4000000 in
theorem w_X12_spread_b85 {p : Program} {l : Launch} {e : Env} {s : State} {m : MethodId} {args : Array Value} {below : List Frame} {meth : Method} {c : Code} {D : va_G} {ks : Nat → ClassId} {L : List Nat} {h' : mh_H} (k90 : Nat → Int32 → Nat → Int32 → Int32 → Int32 → Nat → Int32 → Int32 → mh_H → Option mh_H) (cx : mh_C p m c cX12_spread 6 s args RX12 meth D ks (mh_A L s.heap.size)) (hr : meth.sig.returnType = none)
    (hk90 : ∀ (o0 : Nat) (x1 : Int32) (o2 : Nat) (x3 : Int32) (x4 : Int32) (x5 : Int32) (t0 : Nat) (t1 : Int32) (t2 : Int32) (h : mh_H) (H : Heap) (locs : List Loc) (ls : Array Slot), mh_W D ks L (mh_A L s.heap.size) s.heap h H locs → lv_has ls 6 [(0, .ref o0), (1, .int x1), (2, .ref o2), (3, .int x3), (4, .int x4), (5, .int x5)] → k90 o0 x1 o2 x3 x4 x5 t0 t1 t2 h = some h' → W p l e (mh_rm 1) s m args below meth c H locs 0 0 (MQ below (mh_Qv D ks L s.heap.size h') args s 0 0 (mh_A L s.heap.size)) (F0 m 90 ls [.int t2, .int t1, .ref t0])) :
    ∀ (o0 : Nat) (x1 : Int32) (o2 : Nat) (x3 : Int32) (x4 : Int32) (x5 : Int32) (t0 : Nat) (t1 : Int32) (h : mh_H) (H : Heap) (locs : List Loc) (ls : Array Slot), mh_W D ks L (mh_A L s.heap.size) s.heap h H locs → lv_has ls 6 [(0, .ref o0), (1, .int x1), (2, .ref o2), (3, .int x3), (4, .int x4), (5, .int x5)] → f_X12_spread_b85 k90 o0 x1 o2 x3 x4 x5 t0 t1 h = some h' → W p l e (mh_rm 1) s m args below meth c H locs 0 0 (MQ below (mh_Qv D ks L s.heap.size h') args s 0 0 (mh_A L s.heap.size)) (F0 m 85 ls [.int t1, .ref t0]) := by
  intro o0 x1 o2 x3 x4 x5 t0 t1 h H locs ls wd hl hX
  have hx := cx.1.1
  have hb := cx.1.2.1
  unfold f_X12_spread_b85 at hX
  refine lv_iconst (v := 1) hx hb dX12_spread_85 (by decide) ?_
  refine lv_goto (tgt := 90) hx hb dX12_spread_86 rfl ?_
  exact hk90 _ _ _ _ _ _ _ _ _ h _ _ ls wd (lv_sub hl [0, 1, 2, 3, 4, 5] rfl) hX
set_option maxRecDepth 100000 in
set_option maxHeartbeats 4000000 in
theorem w_X12_spread_b97 {p : Program} {l : Launch} {e : Env} {s : State} {m : MethodId} {args : Array Value} {below : List Frame} {meth : Method} {c : Code} {D : va_G} {ks : Nat → ClassId} {L : List Nat} {h' : mh_H} (k28 : Nat → Int32 → Nat → Int32 → mh_H → Option mh_H) (cx : mh_C p m c cX12_spread 6 s args RX12 meth D ks (mh_A L s.heap.size)) (hr : meth.sig.returnType = none)
    (hk28 : ∀ (o0 : Nat) (x1 : Int32) (o2 : Nat) (x3 : Int32) (h : mh_H) (H : Heap) (locs : List Loc) (ls : Array Slot), mh_W D ks L (mh_A L s.heap.size) s.heap h H locs → lv_has ls 6 [(0, .ref o0), (1, .int x1), (2, .ref o2), (3, .int x3)] → k28 o0 x1 o2 x3 h = some h' → W p l e (mh_rm 1) s m args below meth c H locs 0 0 (MQ below (mh_Qv D ks L s.heap.size h') args s 0 0 (mh_A L s.heap.size)) (F0 m 28 ls [])) :
    ∀ (o0 : Nat) (x1 : Int32) (o2 : Nat) (x3 : Int32) (h : mh_H) (H : Heap) (locs : List Loc) (ls : Array Slot), mh_W D ks L (mh_A L s.heap.size) s.heap h H locs → lv_has ls 6 [(0, .ref o0), (1, .int x1), (2, .ref o2), (3, .int x3)] → f_X12_spread_b97 k28 o0 x1 o2 x3 h = some h' → W p l e (mh_rm 1) s m args below meth c H locs 0 0 (MQ below (mh_Qv D ks L s.heap.size h') args s 0 0 (mh_A L s.heap.size)) (F0 m 97 ls []) := by
  intro o0 x1 o2 x3 h H locs ls wd hl hX
  have hx := cx.1.1
  have hb := cx.1.2.1
  unfold f_X12_spread_b97 at hX
  obtain ⟨v5, ev5, hX⟩ := mh_nmx hX
  refine lv_iinc (k := 3) (v := v5) (lv' := [(3, .int v5), (0, .ref o0), (1, .int x1), (2, .ref o2)]) hx hb dX12_spread_97 hl rfl ev5 (Nat.le_of_ble_eq_true rfl) rfl (fun ls hl => ?_)
  refine lv_goto (tgt := 28) hx hb dX12_spread_100 rfl ?_
  exact hk28 _ _ _ _ h _ _ ls wd (lv_sub hl [1, 2, 3, 0] rfl) hX
set_option maxRecDepth 100000 in
set_option maxHeartbeats 4000000 in
theorem w_X12_spread_b58 {p : Program} {l : Launch} {e : Env} {s : State} {m : MethodId} {args : Array Value} {below : List Frame} {meth : Method} {c : Code} {D : va_G} {ks : Nat → ClassId} {L : List Nat} {h' : mh_H} (k28 : Nat → Int32 → Nat → Int32 → mh_H → Option mh_H) (cx : mh_C p m c cX12_spread 6 s args RX12 meth D ks (mh_A L s.heap.size)) (hr : meth.sig.returnType = none)
    (hk28 : ∀ (o0 : Nat) (x1 : Int32) (o2 : Nat) (x3 : Int32) (h : mh_H) (H : Heap) (locs : List Loc) (ls : Array Slot), mh_W D ks L (mh_A L s.heap.size) s.heap h H locs → lv_has ls 6 [(0, .ref o0), (1, .int x1), (2, .ref o2), (3, .int x3)] → k28 o0 x1 o2 x3 h = some h' → W p l e (mh_rm 1) s m args below meth c H locs 0 0 (MQ below (mh_Qv D ks L s.heap.size h') args s 0 0 (mh_A L s.heap.size)) (F0 m 28 ls [])) :
    ∀ n : Nat, ∀ (o0 : Nat) (x1 : Int32) (o2 : Nat) (x3 : Int32) (x4 : Int32) (x5 : Int32) (h : mh_H) (H : Heap) (locs : List Loc) (ls : Array Slot), mh_W D ks L (mh_A L s.heap.size) s.heap h H locs → lv_has ls 6 [(0, .ref o0), (1, .int x1), (2, .ref o2), (3, .int x3), (4, .int x4), (5, .int x5)] → f_X12_spread_b58 k28 n o0 x1 o2 x3 x4 x5 h = some h' → W p l e (mh_rm 1) s m args below meth c H locs 0 0 (MQ below (mh_Qv D ks L s.heap.size h') args s 0 0 (mh_A L s.heap.size)) (F0 m 58 ls []) := by
  intro n
  induction n with
  | zero =>
    intro o0 x1 o2 x3 x4 x5 h H locs ls wd hl hX
    cases hX
  | succ n ih =>
    intro o0 x1 o2 x3 x4 x5 h H locs ls wd hl hX
    have hx := cx.1.1
    have hb := cx.1.2.1
    rw [f_X12_spread_b58] at hX
    refine lv_iload hx hb dX12_spread_58 (lv_at hl 5 rfl) ?_
    refine mh_ldc cx kc_X12_193 dX12_spread_60 ?_
    refine lv_icmp_gt (tgt := 97) hx hb dX12_spread_62 rfl (fun hc => (fun hX => ?_) ((mh_if hX).1 hc)) (fun hc => (fun hX => ?_) ((mh_if hX).2 hc))
    · exact w_X12_spread_b97 k28 cx hr hk28 _ _ _ _ h _ _ ls wd (lv_sub hl [0, 1, 2, 3] rfl) hX
    · refine lv_aload_n hx hb dX12_spread_65 rfl (lv_at hl 2 rfl) ?_
      refine lv_iload hx hb dX12_spread_66 (lv_at hl 5 rfl) ?_
      refine lv_aload_n hx hb dX12_spread_68 rfl (lv_at hl 2 rfl) ?_
      refine lv_iload hx hb dX12_spread_69 (lv_at hl 5 rfl) ?_
      refine mh_zald cx wd dX12_spread_71 hX (fun v6 hX => ?_)
      refine lv_if_ne (tgt := 85) hx hb dX12_spread_72 rfl (fun hc => (fun hX => ?_) ((mh_if hX).2 hc)) (fun hc => (fun hX => ?_) ((mh_if hX).1 hc))
      · exact w_X12_spread_b85 (f_X12_spread_b90 (f_X12_spread_b58 k28 n)) cx hr (w_X12_spread_b90 (f_X12_spread_b58 k28 n) cx hr ih) _ _ _ _ _ _ _ _ h _ _ ls wd (lv_sub hl [0, 1, 2, 3, 4, 5] rfl) hX
      · refine lv_aload_n hx hb dX12_spread_75 rfl (lv_at hl 2 rfl) ?_
        refine lv_iload hx hb dX12_spread_76 (lv_at hl 5 rfl) ?_
        refine lv_iload hx hb dX12_spread_78 (lv_at hl 4 rfl) ?_
        refine lv_isub hx hb dX12_spread_80 ?_
        refine mh_zald cx wd dX12_spread_81 hX (fun v7 hX => ?_)
        refine lv_if_eq (tgt := 89) hx hb dX12_spread_82 rfl (fun hc => (fun hX => ?_) ((mh_if hX).1 hc)) (fun hc => (fun hX => ?_) ((mh_if hX).2 hc))
        · refine lv_iconst (v := 0) hx hb dX12_spread_89 (by decide) ?_
          exact w_X12_spread_b90 (f_X12_spread_b58 k28 n) cx hr ih _ _ _ _ _ _ _ _ _ h _ _ ls wd (lv_sub hl [0, 1, 2, 3, 4, 5] rfl) hX
        · exact w_X12_spread_b85 (f_X12_spread_b90 (f_X12_spread_b58 k28 n)) cx hr (w_X12_spread_b90 (f_X12_spread_b58 k28 n) cx hr ih) _ _ _ _ _ _ _ _ h _ _ ls wd (lv_sub hl [0, 1, 2, 3, 4, 5] rfl) hX
set_option maxRecDepth 100000 in
set_option maxHeartbeats 4000000 in
theorem w_X12_spread_b103 {p : Program} {l : Launch} {e : Env} {s : State} {m : MethodId} {args : Array Value} {below : List Frame} {meth : Method} {c : Code} {D : va_G} {ks : Nat → ClassId} {L : List Nat} {h' : mh_H} (cx : mh_C p m c cX12_spread 6 s args RX12 meth D ks (mh_A L s.heap.size)) (hr : meth.sig.returnType = none) :
    ∀ (h : mh_H) (H : Heap) (locs : List Loc) (ls : Array Slot), mh_W D ks L (mh_A L s.heap.size) s.heap h H locs → lv_has ls 6 [] → f_X12_spread_b103  h = some h' → W p l e (mh_rm 1) s m args below meth c H locs 0 0 (MQ below (mh_Qv D ks L s.heap.size h') args s 0 0 (mh_A L s.heap.size)) (F0 m 103 ls []) := by
  intro  h H locs ls wd hl hX
  have hx := cx.1.1
  have hb := cx.1.2.1
  unfold f_X12_spread_b103 at hX
  exact mh_vret cx wd hr hX dX12_spread_103
set_option maxRecDepth 100000 in
set_option maxHeartbeats 4000000 in
theorem w_X12_spread_b28 {p : Program} {l : Launch} {e : Env} {s : State} {m : MethodId} {args : Array Value} {below : List Frame} {meth : Method} {c : Code} {D : va_G} {ks : Nat → ClassId} {L : List Nat} {h' : mh_H} (cx : mh_C p m c cX12_spread 6 s args RX12 meth D ks (mh_A L s.heap.size)) (hr : meth.sig.returnType = none) :
    ∀ n : Nat, ∀ (o0 : Nat) (x1 : Int32) (o2 : Nat) (x3 : Int32) (h : mh_H) (H : Heap) (locs : List Loc) (ls : Array Slot), mh_W D ks L (mh_A L s.heap.size) s.heap h H locs → lv_has ls 6 [(0, .ref o0), (1, .int x1), (2, .ref o2), (3, .int x3)] → f_X12_spread_b28 n o0 x1 o2 x3 h = some h' → W p l e (mh_rm 1) s m args below meth c H locs 0 0 (MQ below (mh_Qv D ks L s.heap.size h') args s 0 0 (mh_A L s.heap.size)) (F0 m 28 ls []) := by
  intro n
  induction n with
  | zero =>
    intro o0 x1 o2 x3 h H locs ls wd hl hX
    cases hX
  | succ n ih =>
    intro o0 x1 o2 x3 h H locs ls wd hl hX
    have hx := cx.1.1
    have hb := cx.1.2.1
    rw [f_X12_spread_b28] at hX
    refine lv_iload_n hx hb dX12_spread_28 rfl (lv_at hl 3 rfl) ?_
    refine lv_aload_n hx hb dX12_spread_29 rfl (lv_at hl 0 rfl) ?_
    refine mh_getR cx wd fl_X12_9 dX12_spread_30 hX (fun a8 hX => ?_)
    refine lv_iload_n hx hb dX12_spread_33 rfl (lv_at hl 1 rfl) ?_
    refine mh_callSI cx wd [.int x1] yw_X12_mintAt sw_X12_115 rfl hl.1 rfl (Nat.le_of_ble_eq_true rfl) dX12_spread_34 ⟨Nat.le_of_ble_eq_true rfl, Nat.le_of_ble_eq_true rfl⟩ ⟨Nat.le_refl _, Nat.le_refl _⟩ (fun _ _ q => c_X12_mintAt q) hX (fun v10 h9 H locs wd hX => ?_)
    refine mh_iald cx wd dX12_spread_37 hX (fun v11 hX => ?_)
    refine lv_icmp_gt (tgt := 103) hx hb dX12_spread_38 rfl (fun hc => (fun hX => ?_) ((mh_if hX).1 hc)) (fun hc => (fun hX => ?_) ((mh_if hX).2 hc))
    · exact w_X12_spread_b103 cx hr  h9 _ _ ls wd (lv_sub hl [] rfl) hX
    · refine lv_aload_n hx hb dX12_spread_41 rfl (lv_at hl 0 rfl) ?_
      refine mh_getR cx wd fl_X12_9 dX12_spread_42 hX (fun a12 hX => ?_)
      refine lv_iload_n hx hb dX12_spread_45 rfl (lv_at hl 1 rfl) ?_
      refine mh_callSI cx wd [.int x1] yw_X12_mintAt sw_X12_115 rfl hl.1 rfl (Nat.le_of_ble_eq_true rfl) dX12_spread_46 ⟨Nat.le_of_ble_eq_true rfl, Nat.le_of_ble_eq_true rfl⟩ ⟨Nat.le_refl _, Nat.le_refl _⟩ (fun _ _ q => c_X12_mintAt q) hX (fun v14 h13 H locs wd hX => ?_)
      refine lv_iload_n hx hb dX12_spread_49 rfl (lv_at hl 3 rfl) ?_
      refine lv_iadd hx hb dX12_spread_50 ?_
      refine mh_iald cx wd dX12_spread_51 hX (fun v15 hX => ?_)
      refine lv_istore (lv' := [(4, .int v15), (0, .ref o0), (1, .int x1), (2, .ref o2), (3, .int x3)]) hx hb dX12_spread_52 hl (Nat.le_of_ble_eq_true rfl) rfl (fun ls hl => ?_)
      refine lv_iload hx hb dX12_spread_54 (lv_at hl 0 rfl) ?_
      refine lv_istore (lv' := [(5, .int v15), (4, .int v15), (0, .ref o0), (1, .int x1), (2, .ref o2), (3, .int x3)]) hx hb dX12_spread_56 hl (Nat.le_of_ble_eq_true rfl) rfl (fun ls hl => ?_)
      exact w_X12_spread_b58 (f_X12_spread_b28 n) cx hr ih mh_fu _ _ _ _ _ _ h13 _ _ ls wd (lv_sub hl [2, 3, 4, 5, 1, 0] rfl) hX
set_option maxRecDepth 100000 in
set_option maxHeartbeats 4000000 in
theorem w_X12_spread_b26 {p : Program} {l : Launch} {e : Env} {s : State} {m : MethodId} {args : Array Value} {below : List Frame} {meth : Method} {c : Code} {D : va_G} {ks : Nat → ClassId} {L : List Nat} {h' : mh_H} (cx : mh_C p m c cX12_spread 6 s args RX12 meth D ks (mh_A L s.heap.size)) (hr : meth.sig.returnType = none) :
    ∀ (o0 : Nat) (x1 : Int32) (o2 : Nat) (h : mh_H) (H : Heap) (locs : List Loc) (ls : Array Slot), mh_W D ks L (mh_A L s.heap.size) s.heap h H locs → lv_has ls 6 [(0, .ref o0), (1, .int x1), (2, .ref o2)] → f_X12_spread_b26 o0 x1 o2 h = some h' → W p l e (mh_rm 1) s m args below meth c H locs 0 0 (MQ below (mh_Qv D ks L s.heap.size h') args s 0 0 (mh_A L s.heap.size)) (F0 m 26 ls []) := by
  intro o0 x1 o2 h H locs ls wd hl hX
  have hx := cx.1.1
  have hb := cx.1.2.1
  unfold f_X12_spread_b26 at hX
  refine lv_iconst (v := 1) hx hb dX12_spread_26 (by decide) ?_
  refine mh_topi hX (fun v16 hX => ?_)
  refine lv_istore_n (lv' := [(3, .int v16), (0, .ref o0), (1, .int x1), (2, .ref o2)]) hx hb dX12_spread_27 rfl hl (Nat.le_of_ble_eq_true rfl) rfl (fun ls hl => ?_)
  exact w_X12_spread_b28 cx hr mh_fu _ _ _ _ h _ _ ls wd (lv_sub hl [1, 2, 3, 0] rfl) hX
set_option maxRecDepth 100000 in
set_option maxHeartbeats 4000000 in
theorem w_X12_spread_b2 {p : Program} {l : Launch} {e : Env} {s : State} {m : MethodId} {args : Array Value} {below : List Frame} {meth : Method} {c : Code} {D : va_G} {ks : Nat → ClassId} {L : List Nat} {h' : mh_H} (cx : mh_C p m c cX12_spread 6 s args RX12 meth D ks (mh_A L s.heap.size)) (hr : meth.sig.returnType = none) :
    ∀ n : Nat, ∀ (o0 : Nat) (x1 : Int32) (o2 : Nat) (x3 : Int32) (h : mh_H) (H : Heap) (locs : List Loc) (ls : Array Slot), mh_W D ks L (mh_A L s.heap.size) s.heap h H locs → lv_has ls 6 [(0, .ref o0), (1, .int x1), (2, .ref o2), (3, .int x3)] → f_X12_spread_b2 n o0 x1 o2 x3 h = some h' → W p l e (mh_rm 1) s m args below meth c H locs 0 0 (MQ below (mh_Qv D ks L s.heap.size h') args s 0 0 (mh_A L s.heap.size)) (F0 m 2 ls []) := by
  intro n
  induction n with
  | zero =>
    intro o0 x1 o2 x3 h H locs ls wd hl hX
    cases hX
  | succ n ih =>
    intro o0 x1 o2 x3 h H locs ls wd hl hX
    have hx := cx.1.1
    have hb := cx.1.2.1
    rw [f_X12_spread_b2] at hX
    refine lv_iload_n hx hb dX12_spread_2 rfl (lv_at hl 3 rfl) ?_
    refine mh_ldc cx kc_X12_193 dX12_spread_3 ?_
    refine lv_icmp_gt (tgt := 26) hx hb dX12_spread_5 rfl (fun hc => (fun hX => ?_) ((mh_if hX).1 hc)) (fun hc => (fun hX => ?_) ((mh_if hX).2 hc))
    · exact w_X12_spread_b26 cx hr _ _ _ h _ _ ls wd (lv_sub hl [0, 1, 2] rfl) hX
    · refine lv_aload_n hx hb dX12_spread_8 rfl (lv_at hl 2 rfl) ?_
      refine lv_iload_n hx hb dX12_spread_9 rfl (lv_at hl 3 rfl) ?_
      refine lv_iload_n hx hb dX12_spread_10 rfl (lv_at hl 3 rfl) ?_
      refine lv_if_ne (tgt := 18) hx hb dX12_spread_11 rfl (fun hc => (fun hX => ?_) ((mh_if hX).2 hc)) (fun hc => (fun hX => ?_) ((mh_if hX).1 hc))
      · refine lv_iconst (v := 0) hx hb dX12_spread_18 (by decide) ?_
        exact w_X12_spread_b19 (f_X12_spread_b2 n) cx hr ih _ _ _ _ _ _ _ h _ _ ls wd (lv_sub hl [0, 1, 2, 3] rfl) hX
      · refine lv_iconst (v := 1) hx hb dX12_spread_14 (by decide) ?_
        refine lv_goto (tgt := 19) hx hb dX12_spread_15 rfl ?_
        exact w_X12_spread_b19 (f_X12_spread_b2 n) cx hr ih _ _ _ _ _ _ _ h _ _ ls wd (lv_sub hl [0, 1, 2, 3] rfl) hX
set_option maxRecDepth 100000 in
set_option maxHeartbeats 4000000 in
theorem w_X12_spread_e {p : Program} {l : Launch} {e : Env} {s : State} {m : MethodId} {args : Array Value} {below : List Frame} {meth : Method} {c : Code} {D : va_G} {ks : Nat → ClassId} {L : List Nat} {h' : mh_H} (cx : mh_C p m c cX12_spread 6 s args RX12 meth D ks (mh_A L s.heap.size)) (hr : meth.sig.returnType = none) :
    ∀ (o0 : Nat) (x1 : Int32) (o2 : Nat) (h : mh_H) (H : Heap) (locs : List Loc) (ls : Array Slot), mh_W D ks L (mh_A L s.heap.size) s.heap h H locs → lv_has ls 6 [(0, .ref o0), (1, .int x1), (2, .ref o2)] → f_X12_spread_e o0 x1 o2 h = some h' → W p l e (mh_rm 1) s m args below meth c H locs 0 0 (MQ below (mh_Qv D ks L s.heap.size h') args s 0 0 (mh_A L s.heap.size)) (F0 m 0 ls []) := by
  intro o0 x1 o2 h H locs ls wd hl hX
  have hx := cx.1.1
  have hb := cx.1.2.1
  unfold f_X12_spread_e at hX
  refine lv_iconst (v := 0) hx hb dX12_spread_0 (by decide) ?_
  refine mh_topi hX (fun v17 hX => ?_)
  refine lv_istore_n (lv' := [(3, .int v17), (0, .ref o0), (1, .int x1), (2, .ref o2)]) hx hb dX12_spread_1 rfl hl (Nat.le_of_ble_eq_true rfl) rfl (fun ls hl => ?_)
  exact w_X12_spread_b2 cx hr mh_fu _ _ _ _ h _ _ ls wd (lv_sub hl [1, 2, 3, 0] rfl) hX
set_option maxRecDepth 100000 in
theorem c_X12_spread {l : Launch} {L : List Nat} {h h' : mh_H} {o0 : Nat} {x1 : Int32} {o2 : Nat} (hX : f_X12_spread_e o0 x1 o2 h = some h') : mh_MV l yX12_spread (Cond.code yX12_spread cX12_spread 6 none :: mh_TB) (mh_rm 1) [.ref o0, .int x1, .ref o2] L h h' :=
  mh_of (mc := 0) (ms := 0) (Qc := fun D ks sz => mh_Qv D ks L sz h') (plainFor_of_name (by decide)) (Nat.le_of_ble_eq_true rfl) (fun p e s m below meth c D ks ls hr cx wd hl => by
    have hl : lv_has ls 6 [(0, .ref o0), (1, .int x1), (2, .ref o2)] := hl
    exact w_X12_spread_e cx hr o0 x1 o2 h _ _ ls wd hl hX)
