def f_X12_failure_b112 (x3 : Int32) (h : mh_H) : Option (Int32 × mh_H) :=
  some (x3, h)
def f_X12_failure_b114 (k9 : Nat → Int32 → Int32 → mh_H → Option (Int32 × mh_H)) (o0 : Nat) (x2 : Int32) (x3 : Int32) (h : mh_H) : Option (Int32 × mh_H) :=
  mh_nm (x3 + Int32.ofInt (1)) fun v1 =>
  k9 o0 x2 v1 h
def f_X12_failure_b75 (k9 : Nat → Int32 → Int32 → mh_H → Option (Int32 × mh_H)) (o0 : Nat) (x2 : Int32) (x3 : Int32) (t0 : Nat) (t1 : Int32) (t2 : Int32) (h : mh_H) : Option (Int32 × mh_H) :=
  (mh_sI h t0 t1 t2).bind fun h2 =>
  (mh_gR h2 o0 12 8).bind fun a3 =>
  (mh_gI h2 o0 12 7).bind fun v4 =>
  (mh_aR h2 a3 5 v4).bind fun a5 =>
  (mh_aI h2 a5 0 x3).bind fun v6 =>
  if (536870912 : Int32) ≤ v6 then (
  f_X12_failure_b114 k9 o0 x2 x3 h2) else
  (mh_gR h2 o0 12 8).bind fun a7 =>
  (mh_gI h2 o0 12 7).bind fun v8 =>
  (mh_aR h2 a7 5 v8).bind fun a9 =>
  (mh_aI h2 a9 0 x3).bind fun v10 =>
  (mh_gR h2 o0 12 32).bind fun a11 =>
  (mh_aI h2 a11 0 x3).bind fun v12 =>
  if v10 = v12 then (
  f_X12_failure_b114 k9 o0 x2 x3 h2) else
  f_X12_failure_b112 x3 h2
def f_X12_failure_b39 (k9 : Nat → Int32 → Int32 → mh_H → Option (Int32 × mh_H)) (o0 : Nat) (x2 : Int32) (x3 : Int32) (h : mh_H) : Option (Int32 × mh_H) :=
  (mh_gR h o0 12 32).bind fun a13 =>
  if x2 = 0 then (
  f_X12_failure_b75 k9 o0 x2 x3 a13 x3 (536870912 : Int32) h) else
  (mh_gR h o0 12 32).bind fun a14 =>
  (mh_gR h o0 12 6).bind fun a15 =>
  (mh_aI h a15 0 (x2 - (1 : Int32))).bind fun v16 =>
  (mh_aI h a14 0 (x3 - v16)).bind fun v17 =>
  f_X12_failure_b75 k9 o0 x2 x3 a13 x3 (if (v17 + (1 : Int32)) < (536870912 : Int32) then (v17 + (1 : Int32)) else (536870912 : Int32)) h
def f_X12_failure_b15 (k9 : Nat → Int32 → Int32 → mh_H → Option (Int32 × mh_H)) : Nat → Nat → Int32 → Int32 → mh_H → Option (Int32 × mh_H)
  | 0, _, _, _, _ => none
  | n + 1, o0, x2, x3, h =>
    (mh_gI h o0 12 7).bind fun v18 =>
    if v18 ≤ x2 then (
    f_X12_failure_b39 k9 o0 x2 x3 h) else
    (mh_gR h o0 12 6).bind fun a19 =>
    (mh_aI h a19 0 x2).bind fun v20 =>
    if x3 < v20 then (
    f_X12_failure_b39 k9 o0 x2 x3 h) else
    mh_nm (x2 + Int32.ofInt (1)) fun v21 =>
    f_X12_failure_b15 k9 n o0 v21 x3 h
def f_X12_failure_b120 (h : mh_H) : Option (Int32 × mh_H) :=
  some ((-1 : Int32), h)
def f_X12_failure_b9 : Nat → Nat → Int32 → Int32 → mh_H → Option (Int32 × mh_H)
  | 0, _, _, _, _ => none
  | n + 1, o0, x2, x3, h =>
    if (100300 : Int32) < x3 then (
    f_X12_failure_b120 h) else
    f_X12_failure_b15 (f_X12_failure_b9 n) mh_fu o0 x2 x3 h
def f_X12_failure_e (o0 : Nat) (x1 : Int32) (h : mh_H) : Option (Int32 × mh_H) :=
  (mh_cal h o0 12 (f_X12_table_e o0 x1 h)).bind fun h22 =>
  mh_nm (0 : Int32) fun v23 =>
  mh_nm (1 : Int32) fun v24 =>
  f_X12_failure_b9 mh_fu o0 v23 v24 h22
set_option maxRecDepth 100000 in
set_option maxHeartbeats 4000000 in
theorem w_X12_failure_b112 {p : Program} {l : Launch} {e : Env} {s : State} {m : MethodId} {args : Array Value} {below : List Frame} {meth : Method} {c : Code} {D : va_G} {ks : Nat → ClassId} {L : List Nat} {r : Int32} {h' : mh_H} (cx : mh_C p m c cX12_failure 4 s args RX12 meth D ks (mh_A L s.heap.size)) (hr : meth.sig.returnType = (some .int)) :
    ∀ (x3 : Int32) (h : mh_H) (H : Heap) (locs : List Loc) (ls : Array Slot), mh_W D ks L (mh_A L s.heap.size) s.heap h H locs → lv_has ls 4 [(3, .int x3)] → f_X12_failure_b112 x3 h = some (r, h') → W p l e (mh_rm 2) s m args below meth c H locs 0 0 (MQ below (mh_Qi D ks L s.heap.size r h') args s 0 0 (mh_A L s.heap.size)) (F0 m 112 ls []) := by
  intro x3 h H locs ls wd hl hX
  have hx := cx.1.1
  have hb := cx.1.2.1
  unfold f_X12_failure_b112 at hX
  refine lv_iload_n hx hb dX12_failure_112 rfl (lv_at hl 0 rfl) ?_
  exact mh_iret cx wd hr hX dX12_failure_113
set_option maxRecDepth 100000 in
set_option maxHeartbeats 4000000 in
theorem w_X12_failure_b114 {p : Program} {l : Launch} {e : Env} {s : State} {m : MethodId} {args : Array Value} {below : List Frame} {meth : Method} {c : Code} {D : va_G} {ks : Nat → ClassId} {L : List Nat} {r : Int32} {h' : mh_H} (k9 : Nat → Int32 → Int32 → mh_H → Option (Int32 × mh_H)) (cx : mh_C p m c cX12_failure 4 s args RX12 meth D ks (mh_A L s.heap.size)) (hr : meth.sig.returnType = (some .int))
    (hk9 : ∀ (o0 : Nat) (x2 : Int32) (x3 : Int32) (h : mh_H) (H : Heap) (locs : List Loc) (ls : Array Slot), mh_W D ks L (mh_A L s.heap.size) s.heap h H locs → lv_has ls 4 [(0, .ref o0), (2, .int x2), (3, .int x3)] → k9 o0 x2 x3 h = some (r, h') → W p l e (mh_rm 2) s m args below meth c H locs 0 0 (MQ below (mh_Qi D ks L s.heap.size r h') args s 0 0 (mh_A L s.heap.size)) (F0 m 9 ls [])) :
    ∀ (o0 : Nat) (x2 : Int32) (x3 : Int32) (h : mh_H) (H : Heap) (locs : List Loc) (ls : Array Slot), mh_W D ks L (mh_A L s.heap.size) s.heap h H locs → lv_has ls 4 [(0, .ref o0), (2, .int x2), (3, .int x3)] → f_X12_failure_b114 k9 o0 x2 x3 h = some (r, h') → W p l e (mh_rm 2) s m args below meth c H locs 0 0 (MQ below (mh_Qi D ks L s.heap.size r h') args s 0 0 (mh_A L s.heap.size)) (F0 m 114 ls []) := by
  intro o0 x2 x3 h H locs ls wd hl hX
  have hx := cx.1.1
  have hb := cx.1.2.1
  unfold f_X12_failure_b114 at hX
  obtain ⟨v1, ev1, hX⟩ := mh_nmx hX
  refine lv_iinc (k := 2) (v := v1) (lv' := [(3, .int v1), (0, .ref o0), (2, .int x2)]) hx hb dX12_failure_114 hl rfl ev1 (Nat.le_of_ble_eq_true rfl) rfl (fun ls hl => ?_)
  refine lv_goto (tgt := 9) hx hb dX12_failure_117 rfl ?_
  exact hk9 _ _ _ h _ _ ls wd (lv_sub hl [1, 2, 0] rfl) hX
set_option maxRecDepth 100000 in
set_option maxHeartbeats 4000000 in
theorem w_X12_failure_b75 {p : Program} {l : Launch} {e : Env} {s : State} {m : MethodId} {args : Array Value} {below : List Frame} {meth : Method} {c : Code} {D : va_G} {ks : Nat → ClassId} {L : List Nat} {r : Int32} {h' : mh_H} (k9 : Nat → Int32 → Int32 → mh_H → Option (Int32 × mh_H)) (cx : mh_C p m c cX12_failure 4 s args RX12 meth D ks (mh_A L s.heap.size)) (hr : meth.sig.returnType = (some .int))
    (hk9 : ∀ (o0 : Nat) (x2 : Int32) (x3 : Int32) (h : mh_H) (H : Heap) (locs : List Loc) (ls : Array Slot), mh_W D ks L (mh_A L s.heap.size) s.heap h H locs → lv_has ls 4 [(0, .ref o0), (2, .int x2), (3, .int x3)] → k9 o0 x2 x3 h = some (r, h') → W p l e (mh_rm 2) s m args below meth c H locs 0 0 (MQ below (mh_Qi D ks L s.heap.size r h') args s 0 0 (mh_A L s.heap.size)) (F0 m 9 ls [])) :
    ∀ (o0 : Nat) (x2 : Int32) (x3 : Int32) (t0 : Nat) (t1 : Int32) (t2 : Int32) (h : mh_H) (H : Heap) (locs : List Loc) (ls : Array Slot), mh_W D ks L (mh_A L s.heap.size) s.heap h H locs → lv_has ls 4 [(0, .ref o0), (2, .int x2), (3, .int x3)] → f_X12_failure_b75 k9 o0 x2 x3 t0 t1 t2 h = some (r, h') → W p l e (mh_rm 2) s m args below meth c H locs 0 0 (MQ below (mh_Qi D ks L s.heap.size r h') args s 0 0 (mh_A L s.heap.size)) (F0 m 75 ls [.int t2, .int t1, .ref t0]) := by
  intro o0 x2 x3 t0 t1 t2 h H locs ls wd hl hX
  have hx := cx.1.1
  have hb := cx.1.2.1
  unfold f_X12_failure_b75 at hX
  refine mh_iast cx wd dX12_failure_75 hX (fun h2 H locs wd hX => ?_)
  refine lv_aload_n hx hb dX12_failure_76 rfl (lv_at hl 0 rfl) ?_
  refine mh_getR cx wd fl_X12_26 dX12_failure_77 hX (fun a3 hX => ?_)
  refine lv_aload_n hx hb dX12_failure_80 rfl (lv_at hl 0 rfl) ?_
  refine mh_getI cx wd fl_X12_21 dX12_failure_81 hX (fun v4 hX => ?_)
  refine mh_aald cx wd 5 rfl rfl dX12_failure_84 hX (fun a5 hX => ?_)
  refine lv_iload_n hx hb dX12_failure_85 rfl (lv_at hl 2 rfl) ?_
  refine mh_iald cx wd dX12_failure_86 hX (fun v6 hX => ?_)
  refine mh_ldc cx kc_X12_126 dX12_failure_87 ?_
  refine lv_icmp_ge (tgt := 114) hx hb dX12_failure_89 rfl (fun hc => (fun hX => ?_) ((mh_if hX).1 hc)) (fun hc => (fun hX => ?_) ((mh_if hX).2 hc))
  · exact w_X12_failure_b114 k9 cx hr hk9 _ _ _ h2 _ _ ls wd (lv_sub hl [0, 1, 2] rfl) hX
  · refine lv_aload_n hx hb dX12_failure_92 rfl (lv_at hl 0 rfl) ?_
    refine mh_getR cx wd fl_X12_26 dX12_failure_93 hX (fun a7 hX => ?_)
    refine lv_aload_n hx hb dX12_failure_96 rfl (lv_at hl 0 rfl) ?_
    refine mh_getI cx wd fl_X12_21 dX12_failure_97 hX (fun v8 hX => ?_)
    refine mh_aald cx wd 5 rfl rfl dX12_failure_100 hX (fun a9 hX => ?_)
    refine lv_iload_n hx hb dX12_failure_101 rfl (lv_at hl 2 rfl) ?_
    refine mh_iald cx wd dX12_failure_102 hX (fun v10 hX => ?_)
    refine lv_aload_n hx hb dX12_failure_103 rfl (lv_at hl 0 rfl) ?_
    refine mh_getR cx wd fl_X12_78 dX12_failure_104 hX (fun a11 hX => ?_)
    refine lv_iload_n hx hb dX12_failure_107 rfl (lv_at hl 2 rfl) ?_
    refine mh_iald cx wd dX12_failure_108 hX (fun v12 hX => ?_)
    refine lv_icmp_eq (tgt := 114) hx hb dX12_failure_109 rfl (fun hc => (fun hX => ?_) ((mh_if hX).1 hc)) (fun hc => (fun hX => ?_) ((mh_if hX).2 hc))
    · exact w_X12_failure_b114 k9 cx hr hk9 _ _ _ h2 _ _ ls wd (lv_sub hl [0, 1, 2] rfl) hX
    · exact w_X12_failure_b112 cx hr _ h2 _ _ ls wd (lv_sub hl [2] rfl) hX
set_option maxRecDepth 100000 in
set_option maxHeartbeats 4000000 in
theorem w_X12_failure_b39 {p : Program} {l : Launch} {e : Env} {s : State} {m : MethodId} {args : Array Value} {below : List Frame} {meth : Method} {c : Code} {D : va_G} {ks : Nat → ClassId} {L : List Nat} {r : Int32} {h' : mh_H} (k9 : Nat → Int32 → Int32 → mh_H → Option (Int32 × mh_H)) (cx : mh_C p m c cX12_failure 4 s args RX12 meth D ks (mh_A L s.heap.size)) (hr : meth.sig.returnType = (some .int))
    (hk9 : ∀ (o0 : Nat) (x2 : Int32) (x3 : Int32) (h : mh_H) (H : Heap) (locs : List Loc) (ls : Array Slot), mh_W D ks L (mh_A L s.heap.size) s.heap h H locs → lv_has ls 4 [(0, .ref o0), (2, .int x2), (3, .int x3)] → k9 o0 x2 x3 h = some (r, h') → W p l e (mh_rm 2) s m args below meth c H locs 0 0 (MQ below (mh_Qi D ks L s.heap.size r h') args s 0 0 (mh_A L s.heap.size)) (F0 m 9 ls [])) :
    ∀ (o0 : Nat) (x2 : Int32) (x3 : Int32) (h : mh_H) (H : Heap) (locs : List Loc) (ls : Array Slot), mh_W D ks L (mh_A L s.heap.size) s.heap h H locs → lv_has ls 4 [(0, .ref o0), (2, .int x2), (3, .int x3)] → f_X12_failure_b39 k9 o0 x2 x3 h = some (r, h') → W p l e (mh_rm 2) s m args below meth c H locs 0 0 (MQ below (mh_Qi D ks L s.heap.size r h') args s 0 0 (mh_A L s.heap.size)) (F0 m 39 ls []) := by
  intro o0 x2 x3 h H locs ls wd hl hX
  have hx := cx.1.1
  have hb := cx.1.2.1
  unfold f_X12_failure_b39 at hX
  refine lv_aload_n hx hb dX12_failure_39 rfl (lv_at hl 0 rfl) ?_
  refine mh_getR cx wd fl_X12_78 dX12_failure_40 hX (fun a13 hX => ?_)
  refine lv_iload_n hx hb dX12_failure_43 rfl (lv_at hl 2 rfl) ?_
  refine lv_iload_n hx hb dX12_failure_44 rfl (lv_at hl 1 rfl) ?_
  refine lv_if_ne (tgt := 53) hx hb dX12_failure_45 rfl (fun hc => (fun hX => ?_) ((mh_if hX).2 hc)) (fun hc => (fun hX => ?_) ((mh_if hX).1 hc))
  · refine mh_ldc cx kc_X12_126 dX12_failure_53 ?_
    refine lv_aload_n hx hb dX12_failure_55 rfl (lv_at hl 0 rfl) ?_
    refine mh_getR cx wd fl_X12_78 dX12_failure_56 hX (fun a14 hX => ?_)
    refine lv_iload_n hx hb dX12_failure_59 rfl (lv_at hl 2 rfl) ?_
    refine lv_aload_n hx hb dX12_failure_60 rfl (lv_at hl 0 rfl) ?_
    refine mh_getR cx wd fl_X12_18 dX12_failure_61 hX (fun a15 hX => ?_)
    refine lv_iload_n hx hb dX12_failure_64 rfl (lv_at hl 1 rfl) ?_
    refine lv_iconst (v := 1) hx hb dX12_failure_65 (by decide) ?_
    refine lv_isub hx hb dX12_failure_66 ?_
    refine mh_iald cx wd dX12_failure_67 hX (fun v16 hX => ?_)
    refine lv_isub hx hb dX12_failure_68 ?_
    refine mh_iald cx wd dX12_failure_69 hX (fun v17 hX => ?_)
    refine lv_iconst (v := 1) hx hb dX12_failure_70 (by decide) ?_
    refine lv_iadd hx hb dX12_failure_71 ?_
    refine mh_mmin mh_Mok cx hl.1 km_X12_157 (Nat.le_of_ble_eq_true rfl) (Nat.le_of_ble_eq_true rfl) ⟨Nat.le_refl _, Nat.le_refl _⟩ dX12_failure_72 ?_
    exact w_X12_failure_b75 k9 cx hr hk9 _ _ _ _ _ _ h _ _ ls wd (lv_sub hl [0, 1, 2] rfl) hX
  · refine mh_ldc cx kc_X12_126 dX12_failure_48 ?_
    refine lv_goto (tgt := 75) hx hb dX12_failure_50 rfl ?_
    exact w_X12_failure_b75 k9 cx hr hk9 _ _ _ _ _ _ h _ _ ls wd (lv_sub hl [0, 1, 2] rfl) hX
set_option maxRecDepth 100000 in
set_option maxHeartbeats 4000000 in
theorem w_X12_failure_b15 {p : Program} {l : Launch} {e : Env} {s : State} {m : MethodId} {args : Array Value} {below : List Frame} {meth : Method} {c : Code} {D : va_G} {ks : Nat → ClassId} {L : List Nat} {r : Int32} {h' : mh_H} (k9 : Nat → Int32 → Int32 → mh_H → Option (Int32 × mh_H)) (cx : mh_C p m c cX12_failure 4 s args RX12 meth D ks (mh_A L s.heap.size)) (hr : meth.sig.returnType = (some .int))
    (hk9 : ∀ (o0 : Nat) (x2 : Int32) (x3 : Int32) (h : mh_H) (H : Heap) (locs : List Loc) (ls : Array Slot), mh_W D ks L (mh_A L s.heap.size) s.heap h H locs → lv_has ls 4 [(0, .ref o0), (2, .int x2), (3, .int x3)] → k9 o0 x2 x3 h = some (r, h') → W p l e (mh_rm 2) s m args below meth c H locs 0 0 (MQ below (mh_Qi D ks L s.heap.size r h') args s 0 0 (mh_A L s.heap.size)) (F0 m 9 ls [])) :
    ∀ n : Nat, ∀ (o0 : Nat) (x2 : Int32) (x3 : Int32) (h : mh_H) (H : Heap) (locs : List Loc) (ls : Array Slot), mh_W D ks L (mh_A L s.heap.size) s.heap h H locs → lv_has ls 4 [(0, .ref o0), (2, .int x2), (3, .int x3)] → f_X12_failure_b15 k9 n o0 x2 x3 h = some (r, h') → W p l e (mh_rm 2) s m args below meth c H locs 0 0 (MQ below (mh_Qi D ks L s.heap.size r h') args s 0 0 (mh_A L s.heap.size)) (F0 m 15 ls []) := by
  intro n
  induction n with
  | zero =>
    intro o0 x2 x3 h H locs ls wd hl hX
    cases hX
  | succ n ih =>
    intro o0 x2 x3 h H locs ls wd hl hX
    have hx := cx.1.1
    have hb := cx.1.2.1
    rw [f_X12_failure_b15] at hX
    refine lv_iload_n hx hb dX12_failure_15 rfl (lv_at hl 1 rfl) ?_
    refine lv_aload_n hx hb dX12_failure_16 rfl (lv_at hl 0 rfl) ?_
    refine mh_getI cx wd fl_X12_21 dX12_failure_17 hX (fun v18 hX => ?_)
    refine lv_icmp_ge (tgt := 39) hx hb dX12_failure_20 rfl (fun hc => (fun hX => ?_) ((mh_if hX).1 hc)) (fun hc => (fun hX => ?_) ((mh_if hX).2 hc))
    · exact w_X12_failure_b39 k9 cx hr hk9 _ _ _ h _ _ ls wd (lv_sub hl [0, 1, 2] rfl) hX
    · refine lv_aload_n hx hb dX12_failure_23 rfl (lv_at hl 0 rfl) ?_
      refine mh_getR cx wd fl_X12_18 dX12_failure_24 hX (fun a19 hX => ?_)
      refine lv_iload_n hx hb dX12_failure_27 rfl (lv_at hl 1 rfl) ?_
      refine mh_iald cx wd dX12_failure_28 hX (fun v20 hX => ?_)
      refine lv_iload_n hx hb dX12_failure_29 rfl (lv_at hl 2 rfl) ?_
      refine lv_icmp_gt (tgt := 39) hx hb dX12_failure_30 rfl (fun hc => (fun hX => ?_) ((mh_if hX).1 hc)) (fun hc => (fun hX => ?_) ((mh_if hX).2 hc))
      · exact w_X12_failure_b39 k9 cx hr hk9 _ _ _ h _ _ ls wd (lv_sub hl [0, 1, 2] rfl) hX
      · obtain ⟨v21, ev21, hX⟩ := mh_nmx hX
        refine lv_iinc (k := 1) (v := v21) (lv' := [(2, .int v21), (0, .ref o0), (3, .int x3)]) hx hb dX12_failure_33 hl rfl ev21 (Nat.le_of_ble_eq_true rfl) rfl (fun ls hl => ?_)
        refine lv_goto (tgt := 15) hx hb dX12_failure_36 rfl ?_
        exact ih _ _ _ h _ _ ls wd (lv_sub hl [1, 0, 2] rfl) hX
set_option maxRecDepth 100000 in
set_option maxHeartbeats 4000000 in
theorem w_X12_failure_b120 {p : Program} {l : Launch} {e : Env} {s : State} {m : MethodId} {args : Array Value} {below : List Frame} {meth : Method} {c : Code} {D : va_G} {ks : Nat → ClassId} {L : List Nat} {r : Int32} {h' : mh_H} (cx : mh_C p m c cX12_failure 4 s args RX12 meth D ks (mh_A L s.heap.size)) (hr : meth.sig.returnType = (some .int)) :
    ∀ (h : mh_H) (H : Heap) (locs : List Loc) (ls : Array Slot), mh_W D ks L (mh_A L s.heap.size) s.heap h H locs → lv_has ls 4 [] → f_X12_failure_b120  h = some (r, h') → W p l e (mh_rm 2) s m args below meth c H locs 0 0 (MQ below (mh_Qi D ks L s.heap.size r h') args s 0 0 (mh_A L s.heap.size)) (F0 m 120 ls []) := by
  intro  h H locs ls wd hl hX
  have hx := cx.1.1
  have hb := cx.1.2.1
  unfold f_X12_failure_b120 at hX
  refine lv_iconst (v := (-1)) hx hb dX12_failure_120 (by decide) ?_
  exact mh_iret cx wd hr hX dX12_failure_121
set_option maxRecDepth 100000 in
set_option maxHeartbeats 4000000 in
theorem w_X12_failure_b9 {p : Program} {l : Launch} {e : Env} {s : State} {m : MethodId} {args : Array Value} {below : List Frame} {meth : Method} {c : Code} {D : va_G} {ks : Nat → ClassId} {L : List Nat} {r : Int32} {h' : mh_H} (cx : mh_C p m c cX12_failure 4 s args RX12 meth D ks (mh_A L s.heap.size)) (hr : meth.sig.returnType = (some .int)) :
    ∀ n : Nat, ∀ (o0 : Nat) (x2 : Int32) (x3 : Int32) (h : mh_H) (H : Heap) (locs : List Loc) (ls : Array Slot), mh_W D ks L (mh_A L s.heap.size) s.heap h H locs → lv_has ls 4 [(0, .ref o0), (2, .int x2), (3, .int x3)] → f_X12_failure_b9 n o0 x2 x3 h = some (r, h') → W p l e (mh_rm 2) s m args below meth c H locs 0 0 (MQ below (mh_Qi D ks L s.heap.size r h') args s 0 0 (mh_A L s.heap.size)) (F0 m 9 ls []) := by
  intro n
  induction n with
  | zero =>
    intro o0 x2 x3 h H locs ls wd hl hX
    cases hX
  | succ n ih =>
    intro o0 x2 x3 h H locs ls wd hl hX
    have hx := cx.1.1
    have hb := cx.1.2.1
    rw [f_X12_failure_b9] at hX
    refine lv_iload_n hx hb dX12_failure_9 rfl (lv_at hl 2 rfl) ?_
    refine mh_ldc cx kc_X12_125 dX12_failure_10 ?_
    refine lv_icmp_gt (tgt := 120) hx hb dX12_failure_12 rfl (fun hc => (fun hX => ?_) ((mh_if hX).1 hc)) (fun hc => (fun hX => ?_) ((mh_if hX).2 hc))
    · exact w_X12_failure_b120 cx hr  h _ _ ls wd (lv_sub hl [] rfl) hX
    · exact w_X12_failure_b15 (f_X12_failure_b9 n) cx hr ih mh_fu _ _ _ h _ _ ls wd (lv_sub hl [0, 1, 2] rfl) hX
set_option maxRecDepth 100000 in
set_option maxHeartbeats 4000000 in
theorem w_X12_failure_e {p : Program} {l : Launch} {e : Env} {s : State} {m : MethodId} {args : Array Value} {below : List Frame} {meth : Method} {c : Code} {D : va_G} {ks : Nat → ClassId} {L : List Nat} {r : Int32} {h' : mh_H} (cx : mh_C p m c cX12_failure 4 s args RX12 meth D ks (mh_A L s.heap.size)) (hr : meth.sig.returnType = (some .int)) :
    ∀ (o0 : Nat) (x1 : Int32) (h : mh_H) (H : Heap) (locs : List Loc) (ls : Array Slot), mh_W D ks L (mh_A L s.heap.size) s.heap h H locs → lv_has ls 4 [(0, .ref o0), (1, .int x1)] → f_X12_failure_e o0 x1 h = some (r, h') → W p l e (mh_rm 2) s m args below meth c H locs 0 0 (MQ below (mh_Qi D ks L s.heap.size r h') args s 0 0 (mh_A L s.heap.size)) (F0 m 0 ls []) := by
  intro o0 x1 h H locs ls wd hl hX
  have hx := cx.1.1
  have hb := cx.1.2.1
  unfold f_X12_failure_e at hX
  refine lv_aload_n hx hb dX12_failure_0 rfl (lv_at hl 0 rfl) ?_
  refine lv_iload_n hx hb dX12_failure_1 rfl (lv_at hl 1 rfl) ?_
  refine mh_callVV cx wd [.int x1] (rfl : vwCl[12]? = some (RX12, TX12, 38)) yw_X12_table vw_X12_145 rfl hl.1 rfl (Nat.le_of_ble_eq_true rfl) dX12_failure_2 ⟨Nat.le_of_ble_eq_true rfl, Nat.le_of_ble_eq_true rfl⟩ ⟨Nat.le_refl _, Nat.le_refl _⟩ (fun _ q => c_X12_table q) hX (fun h22 H locs wd hX => ?_)
  refine lv_iconst (v := 0) hx hb dX12_failure_5 (by decide) ?_
  refine mh_topi hX (fun v23 hX => ?_)
  refine lv_istore_n (lv' := [(2, .int v23), (0, .ref o0), (1, .int x1)]) hx hb dX12_failure_6 rfl hl (Nat.le_of_ble_eq_true rfl) rfl (fun ls hl => ?_)
  refine lv_iconst (v := 1) hx hb dX12_failure_7 (by decide) ?_
  refine mh_topi hX (fun v24 hX => ?_)
  refine lv_istore_n (lv' := [(3, .int v24), (2, .int v23), (0, .ref o0), (1, .int x1)]) hx hb dX12_failure_8 rfl hl (Nat.le_of_ble_eq_true rfl) rfl (fun ls hl => ?_)
  exact w_X12_failure_b9 cx hr mh_fu _ _ _ h22 _ _ ls wd (lv_sub hl [2, 1, 0] rfl) hX
set_option maxRecDepth 100000 in
theorem c_X12_failure {l : Launch} {L : List Nat} {h h' : mh_H} {r : Int32} {o0 : Nat} {x1 : Int32} (hX : f_X12_failure_e o0 x1 h = some (r, h')) : mh_MI l yX12_failure (Cond.code yX12_failure cX12_failure 4 (some .int) :: mh_TB) (mh_rm 2) [.ref o0, .int x1] L h r h' :=
  mh_of (mc := 0) (ms := 0) (Qc := fun D ks sz => mh_Qi D ks L sz r h') (plainFor_of_name (by decide)) (Nat.le_of_ble_eq_true rfl) (fun p e s m below meth c D ks ls hr cx wd hl => by
    have hl : lv_has ls 4 [(0, .ref o0), (1, .int x1)] := hl
    exact w_X12_failure_e cx hr o0 x1 h _ _ ls wd hl hX)
def f_X12_always_b34 (t0 : Int32) (h : mh_H) : Option (Int32 × mh_H) :=
  mh_rz t0 h
def f_X12_always_e (o0 : Nat) (x1 : Int32) (h : mh_H) : Option (Int32 × mh_H) :=
  (mh_pI h o0 12 0 (0 : Int32)).bind fun h1 =>
  mh_b2 (f_X12_isMint_e x1 h1) fun v3 h2 =>
  if v3 = 0 then (
  mh_b2 (mh_cal h2 o0 12 (f_X12_fail_e o0 (1 : Int32) h2)) fun v7 h6 =>
  mh_rz (0 : Int32) h6) else
  mh_b2 (mh_cal h2 o0 12 (f_X12_failure_e o0 x1 h2)) fun v5 h4 =>
  if v5 = (-1 : Int32) then (
  f_X12_always_b34 (1 : Int32) h4) else
  f_X12_always_b34 (0 : Int32) h4
set_option maxRecDepth 100000 in
set_option maxHeartbeats 4000000 in
theorem w_X12_always_b34 {p : Program} {l : Launch} {e : Env} {s : State} {m : MethodId} {args : Array Value} {below : List Frame} {meth : Method} {c : Code} {D : va_G} {ks : Nat → ClassId} {L : List Nat} {r : Int32} {h' : mh_H} (cx : mh_C p m c cX12_always 2 s args RX12 meth D ks (mh_A L s.heap.size)) (hr : meth.sig.returnType = (some .boolean)) :
    ∀ (t0 : Int32) (h : mh_H) (H : Heap) (locs : List Loc) (ls : Array Slot), mh_W D ks L (mh_A L s.heap.size) s.heap h H locs → lv_has ls 2 [] → f_X12_always_b34 t0 h = some (r, h') → W p l e (mh_rm 3) s m args below meth c H locs 0 0 (MQ below (mh_Qi D ks L s.heap.size r h') args s 0 0 (mh_A L s.heap.size)) (F0 m 34 ls [.int t0]) := by
  intro t0 h H locs ls wd hl hX
  have hx := cx.1.1
  have hb := cx.1.2.1
  unfold f_X12_always_b34 at hX
  exact mh_zret cx wd hr hX dX12_always_34
set_option maxRecDepth 100000 in
set_option maxHeartbeats 4000000 in
theorem w_X12_always_e {p : Program} {l : Launch} {e : Env} {s : State} {m : MethodId} {args : Array Value} {below : List Frame} {meth : Method} {c : Code} {D : va_G} {ks : Nat → ClassId} {L : List Nat} {r : Int32} {h' : mh_H} (cx : mh_C p m c cX12_always 2 s args RX12 meth D ks (mh_A L s.heap.size)) (hr : meth.sig.returnType = (some .boolean)) :
    ∀ (o0 : Nat) (x1 : Int32) (h : mh_H) (H : Heap) (locs : List Loc) (ls : Array Slot), mh_W D ks L (mh_A L s.heap.size) s.heap h H locs → lv_has ls 2 [(0, .ref o0), (1, .int x1)] → f_X12_always_e o0 x1 h = some (r, h') → W p l e (mh_rm 3) s m args below meth c H locs 0 0 (MQ below (mh_Qi D ks L s.heap.size r h') args s 0 0 (mh_A L s.heap.size)) (F0 m 0 ls []) := by
  intro o0 x1 h H locs ls wd hl hX
  have hx := cx.1.1
  have hb := cx.1.2.1
  unfold f_X12_always_e at hX
  refine lv_aload_n hx hb dX12_always_0 rfl (lv_at hl 0 rfl) ?_
  refine lv_iconst (v := 0) hx hb dX12_always_1 (by decide) ?_
  refine mh_putI cx wd fp_X12_96 dX12_always_2 hX (fun h1 H locs wd hX => ?_)
  refine lv_iload_n hx hb dX12_always_5 rfl (lv_at hl 1 rfl) ?_
  refine mh_callSI cx wd [.int x1] yw_X12_isMint sw_X12_111 rfl hl.1 rfl (Nat.le_of_ble_eq_true rfl) dX12_always_6 ⟨Nat.le_of_ble_eq_true rfl, Nat.le_of_ble_eq_true rfl⟩ ⟨Nat.le_refl _, Nat.le_refl _⟩ (fun _ _ q => c_X12_isMint q) hX (fun v3 h2 H locs wd hX => ?_)
  refine lv_if_ne (tgt := 20) hx hb dX12_always_9 rfl (fun hc => (fun hX => ?_) ((mh_if hX).2 hc)) (fun hc => (fun hX => ?_) ((mh_if hX).1 hc))
  · refine lv_aload_n hx hb dX12_always_20 rfl (lv_at hl 0 rfl) ?_
    refine lv_iload_n hx hb dX12_always_21 rfl (lv_at hl 1 rfl) ?_
    refine mh_callVI cx wd [.int x1] (rfl : vwCl[12]? = some (RX12, TX12, 38)) yw_X12_failure vw_X12_162 rfl hl.1 rfl (Nat.le_of_ble_eq_true rfl) dX12_always_22 ⟨Nat.le_of_ble_eq_true rfl, Nat.le_of_ble_eq_true rfl⟩ ⟨Nat.le_refl _, Nat.le_refl _⟩ (fun _ _ q => c_X12_failure q) hX (fun v5 h4 H locs wd hX => ?_)
    refine lv_iconst (v := (-1)) hx hb dX12_always_25 (by decide) ?_
    refine lv_icmp_ne (tgt := 33) hx hb dX12_always_26 rfl (fun hc => (fun hX => ?_) ((mh_if hX).2 hc)) (fun hc => (fun hX => ?_) ((mh_if hX).1 hc))
    · refine lv_iconst (v := 0) hx hb dX12_always_33 (by decide) ?_
      exact w_X12_always_b34 cx hr _ h4 _ _ ls wd (lv_sub hl [] rfl) hX
    · refine lv_iconst (v := 1) hx hb dX12_always_29 (by decide) ?_
      refine lv_goto (tgt := 34) hx hb dX12_always_30 rfl ?_
      exact w_X12_always_b34 cx hr _ h4 _ _ ls wd (lv_sub hl [] rfl) hX
  · refine lv_aload_n hx hb dX12_always_12 rfl (lv_at hl 0 rfl) ?_
    refine lv_iconst (v := 1) hx hb dX12_always_13 (by decide) ?_
    refine mh_callVI cx wd [.int (1 : Int32)] (rfl : vwCl[12]? = some (RX12, TX12, 38)) yw_X12_fail vw_X12_122 rfl hl.1 rfl (Nat.le_of_ble_eq_true rfl) dX12_always_14 ⟨Nat.le_of_ble_eq_true rfl, Nat.le_of_ble_eq_true rfl⟩ ⟨Nat.le_refl _, Nat.le_refl _⟩ (fun _ _ q => c_X12_fail q) hX (fun v7 h6 H locs wd hX => ?_)
    refine lv_pop hx hb dX12_always_17 rfl ?_
    refine lv_iconst (v := 0) hx hb dX12_always_18 (by decide) ?_
    exact mh_zret cx wd hr hX dX12_always_19
set_option maxRecDepth 100000 in
theorem c_X12_always {l : Launch} {L : List Nat} {h h' : mh_H} {r : Int32} {o0 : Nat} {x1 : Int32} (hX : f_X12_always_e o0 x1 h = some (r, h')) : mh_MI l yX12_always (Cond.code yX12_always cX12_always 2 (some .boolean) :: mh_TB) (mh_rm 3) [.ref o0, .int x1] L h r h' :=
  mh_of (mc := 0) (ms := 0) (Qc := fun D ks sz => mh_Qi D ks L sz r h') (plainFor_of_name (by decide)) (Nat.le_of_ble_eq_true rfl) (fun p e s m below meth c D ks ls hr cx wd hl => by
    have hl : lv_has ls 2 [(0, .ref o0), (1, .int x1)] := hl
    exact w_X12_always_e cx hr o0 x1 h _ _ ls wd hl hX)
def f_X12_fails_e (o0 : Nat) (x1 : Int32) (h : mh_H) : Option (Int32 × mh_H) :=
  (mh_pI h o0 12 0 (0 : Int32)).bind fun h1 =>
  mh_b2 (f_X12_isMint_e x1 h1) fun v3 h2 =>
  if v3 = 0 then (
  mh_b2 (mh_cal h2 o0 12 (f_X12_fail_e o0 (1 : Int32) h2)) fun v7 h6 =>
  some (v7, h6)) else
  mh_b2 (mh_cal h2 o0 12 (f_X12_failure_e o0 x1 h2)) fun v5 h4 =>
  some (v5, h4)
set_option maxRecDepth 100000 in
set_option maxHeartbeats 4000000 in
theorem w_X12_fails_e {p : Program} {l : Launch} {e : Env} {s : State} {m : MethodId} {args : Array Value} {below : List Frame} {meth : Method} {c : Code} {D : va_G} {ks : Nat → ClassId} {L : List Nat} {r : Int32} {h' : mh_H} (cx : mh_C p m c cX12_fails 2 s args RX12 meth D ks (mh_A L s.heap.size)) (hr : meth.sig.returnType = (some .int)) :
    ∀ (o0 : Nat) (x1 : Int32) (h : mh_H) (H : Heap) (locs : List Loc) (ls : Array Slot), mh_W D ks L (mh_A L s.heap.size) s.heap h H locs → lv_has ls 2 [(0, .ref o0), (1, .int x1)] → f_X12_fails_e o0 x1 h = some (r, h') → W p l e (mh_rm 3) s m args below meth c H locs 0 0 (MQ below (mh_Qi D ks L s.heap.size r h') args s 0 0 (mh_A L s.heap.size)) (F0 m 0 ls []) := by
  intro o0 x1 h H locs ls wd hl hX
  have hx := cx.1.1
  have hb := cx.1.2.1
  unfold f_X12_fails_e at hX
  refine lv_aload_n hx hb dX12_fails_0 rfl (lv_at hl 0 rfl) ?_
  refine lv_iconst (v := 0) hx hb dX12_fails_1 (by decide) ?_
  refine mh_putI cx wd fp_X12_96 dX12_fails_2 hX (fun h1 H locs wd hX => ?_)
  refine lv_iload_n hx hb dX12_fails_5 rfl (lv_at hl 1 rfl) ?_
  refine mh_callSI cx wd [.int x1] yw_X12_isMint sw_X12_111 rfl hl.1 rfl (Nat.le_of_ble_eq_true rfl) dX12_fails_6 ⟨Nat.le_of_ble_eq_true rfl, Nat.le_of_ble_eq_true rfl⟩ ⟨Nat.le_refl _, Nat.le_refl _⟩ (fun _ _ q => c_X12_isMint q) hX (fun v3 h2 H locs wd hX => ?_)
  refine lv_if_ne (tgt := 18) hx hb dX12_fails_9 rfl (fun hc => (fun hX => ?_) ((mh_if hX).2 hc)) (fun hc => (fun hX => ?_) ((mh_if hX).1 hc))
  · refine lv_aload_n hx hb dX12_fails_18 rfl (lv_at hl 0 rfl) ?_
    refine lv_iload_n hx hb dX12_fails_19 rfl (lv_at hl 1 rfl) ?_
    refine mh_callVI cx wd [.int x1] (rfl : vwCl[12]? = some (RX12, TX12, 38)) yw_X12_failure vw_X12_162 rfl hl.1 rfl (Nat.le_of_ble_eq_true rfl) dX12_fails_20 ⟨Nat.le_of_ble_eq_true rfl, Nat.le_of_ble_eq_true rfl⟩ ⟨Nat.le_refl _, Nat.le_refl _⟩ (fun _ _ q => c_X12_failure q) hX (fun v5 h4 H locs wd hX => ?_)
    exact mh_iret cx wd hr hX dX12_fails_23
  · refine lv_aload_n hx hb dX12_fails_12 rfl (lv_at hl 0 rfl) ?_
    refine lv_iconst (v := 1) hx hb dX12_fails_13 (by decide) ?_
    refine mh_callVI cx wd [.int (1 : Int32)] (rfl : vwCl[12]? = some (RX12, TX12, 38)) yw_X12_fail vw_X12_122 rfl hl.1 rfl (Nat.le_of_ble_eq_true rfl) dX12_fails_14 ⟨Nat.le_of_ble_eq_true rfl, Nat.le_of_ble_eq_true rfl⟩ ⟨Nat.le_refl _, Nat.le_refl _⟩ (fun _ _ q => c_X12_fail q) hX (fun v7 h6 H locs wd hX => ?_)
    exact mh_iret cx wd hr hX dX12_fails_17
set_option maxRecDepth 100000 in
theorem c_X12_fails {l : Launch} {L : List Nat} {h h' : mh_H} {r : Int32} {o0 : Nat} {x1 : Int32} (hX : f_X12_fails_e o0 x1 h = some (r, h')) : mh_MI l yX12_fails (Cond.code yX12_fails cX12_fails 2 (some .int) :: mh_TB) (mh_rm 3) [.ref o0, .int x1] L h r h' :=
  mh_of (mc := 0) (ms := 0) (Qc := fun D ks sz => mh_Qi D ks L sz r h') (plainFor_of_name (by decide)) (Nat.le_of_ble_eq_true rfl) (fun p e s m below meth c D ks ls hr cx wd hl => by
    have hl : lv_has ls 2 [(0, .ref o0), (1, .int x1)] := hl
    exact w_X12_fails_e cx hr o0 x1 h _ _ ls wd hl hX)
def f_X12_common_b21 (x2 : Int32) (h : mh_H) : Option (Int32 × mh_H) :=
  some (x2, h)
def f_X12_common_b4 : Nat → Int32 → Int32 → mh_H → Option (Int32 × mh_H)
  | 0, _, _, _ => none
  | n + 1, x2, x3, h =>
    if x3 = 0 then (
    f_X12_common_b21 x2 h) else
    mh_nz (x3 = 0) <|
    mh_nm (mh_irem x2 x3) fun v1 =>
    f_X12_common_b4 n x3 v1 h
def f_X12_common_e (x0 : Int32) (x1 : Int32) (h : mh_H) : Option (Int32 × mh_H) :=
  f_X12_common_b4 mh_fu x0 x1 h
set_option maxRecDepth 100000 in
set_option maxHeartbeats 4000000 in
theorem w_X12_common_b21 {p : Program} {l : Launch} {e : Env} {s : State} {m : MethodId} {args : Array Value} {below : List Frame} {meth : Method} {c : Code} {D : va_G} {ks : Nat → ClassId} {L : List Nat} {r : Int32} {h' : mh_H} (cx : mh_C p m c cX12_common 5 s args RX12 meth D ks (mh_A L s.heap.size)) (hr : meth.sig.returnType = (some .int)) :
    ∀ (x2 : Int32) (h : mh_H) (H : Heap) (locs : List Loc) (ls : Array Slot), mh_W D ks L (mh_A L s.heap.size) s.heap h H locs → lv_has ls 5 [(2, .int x2)] → f_X12_common_b21 x2 h = some (r, h') → W p l e (mh_rm 0) s m args below meth c H locs 0 0 (MQ below (mh_Qi D ks L s.heap.size r h') args s 0 0 (mh_A L s.heap.size)) (F0 m 21 ls []) := by
  intro x2 h H locs ls wd hl hX
  have hx := cx.1.1
  have hb := cx.1.2.1
  unfold f_X12_common_b21 at hX
  refine lv_iload_n hx hb dX12_common_21 rfl (lv_at hl 0 rfl) ?_
  exact mh_iret cx wd hr hX dX12_common_22
set_option maxRecDepth 100000 in
set_option maxHeartbeats 4000000 in
theorem w_X12_common_b4 {p : Program} {l : Launch} {e : Env} {s : State} {m : MethodId} {args : Array Value} {below : List Frame} {meth : Method} {c : Code} {D : va_G} {ks : Nat → ClassId} {L : List Nat} {r : Int32} {h' : mh_H} (cx : mh_C p m c cX12_common 5 s args RX12 meth D ks (mh_A L s.heap.size)) (hr : meth.sig.returnType = (some .int)) :
    ∀ n : Nat, ∀ (x2 : Int32) (x3 : Int32) (h : mh_H) (H : Heap) (locs : List Loc) (ls : Array Slot), mh_W D ks L (mh_A L s.heap.size) s.heap h H locs → lv_has ls 5 [(2, .int x2), (3, .int x3)] → f_X12_common_b4 n x2 x3 h = some (r, h') → W p l e (mh_rm 0) s m args below meth c H locs 0 0 (MQ below (mh_Qi D ks L s.heap.size r h') args s 0 0 (mh_A L s.heap.size)) (F0 m 4 ls []) := by
  intro n
  induction n with
  | zero =>
    intro x2 x3 h H locs ls wd hl hX
    cases hX
  | succ n ih =>
    intro x2 x3 h H locs ls wd hl hX
    have hx := cx.1.1
    have hb := cx.1.2.1
    rw [f_X12_common_b4] at hX
    refine lv_iload_n hx hb dX12_common_4 rfl (lv_at hl 1 rfl) ?_
    refine lv_if_eq (tgt := 21) hx hb dX12_common_5 rfl (fun hc => (fun hX => ?_) ((mh_if hX).1 hc)) (fun hc => (fun hX => ?_) ((mh_if hX).2 hc))
    · exact w_X12_common_b21 cx hr _ h _ _ ls wd (lv_sub hl [0] rfl) hX
    · refine lv_iload_n hx hb dX12_common_8 rfl (lv_at hl 0 rfl) ?_
      refine lv_iload_n hx hb dX12_common_9 rfl (lv_at hl 1 rfl) ?_
      obtain ⟨hz, hX⟩ := mh_nzk hX
      refine lv_irem hx hb dX12_common_10 hz ?_
      refine mh_topi hX (fun v1 hX => ?_)
      refine lv_istore (lv' := [(4, .int v1), (2, .int x2), (3, .int x3)]) hx hb dX12_common_11 hl (Nat.le_of_ble_eq_true rfl) rfl (fun ls hl => ?_)
      refine lv_iload_n hx hb dX12_common_13 rfl (lv_at hl 2 rfl) ?_
      refine lv_istore_n (lv' := [(2, .int x3), (4, .int v1), (3, .int x3)]) hx hb dX12_common_14 rfl hl (Nat.le_of_ble_eq_true rfl) rfl (fun ls hl => ?_)
      refine lv_iload hx hb dX12_common_15 (lv_at hl 1 rfl) ?_
      refine lv_istore_n (lv' := [(3, .int v1), (2, .int x3), (4, .int v1)]) hx hb dX12_common_17 rfl hl (Nat.le_of_ble_eq_true rfl) rfl (fun ls hl => ?_)
      refine lv_goto (tgt := 4) hx hb dX12_common_18 rfl ?_
      exact ih _ _ h _ _ ls wd (lv_sub hl [1, 0] rfl) hX
set_option maxRecDepth 100000 in
set_option maxHeartbeats 4000000 in
theorem w_X12_common_e {p : Program} {l : Launch} {e : Env} {s : State} {m : MethodId} {args : Array Value} {below : List Frame} {meth : Method} {c : Code} {D : va_G} {ks : Nat → ClassId} {L : List Nat} {r : Int32} {h' : mh_H} (cx : mh_C p m c cX12_common 5 s args RX12 meth D ks (mh_A L s.heap.size)) (hr : meth.sig.returnType = (some .int)) :
    ∀ (x0 : Int32) (x1 : Int32) (h : mh_H) (H : Heap) (locs : List Loc) (ls : Array Slot), mh_W D ks L (mh_A L s.heap.size) s.heap h H locs → lv_has ls 5 [(0, .int x0), (1, .int x1)] → f_X12_common_e x0 x1 h = some (r, h') → W p l e (mh_rm 0) s m args below meth c H locs 0 0 (MQ below (mh_Qi D ks L s.heap.size r h') args s 0 0 (mh_A L s.heap.size)) (F0 m 0 ls []) := by
  intro x0 x1 h H locs ls wd hl hX
  have hx := cx.1.1
  have hb := cx.1.2.1
  unfold f_X12_common_e at hX
  refine lv_iload_n hx hb dX12_common_0 rfl (lv_at hl 0 rfl) ?_
  refine lv_istore_n (lv' := [(2, .int x0), (0, .int x0), (1, .int x1)]) hx hb dX12_common_1 rfl hl (Nat.le_of_ble_eq_true rfl) rfl (fun ls hl => ?_)
  refine lv_iload_n hx hb dX12_common_2 rfl (lv_at hl 2 rfl) ?_
  refine lv_istore_n (lv' := [(3, .int x1), (2, .int x0), (0, .int x0), (1, .int x1)]) hx hb dX12_common_3 rfl hl (Nat.le_of_ble_eq_true rfl) rfl (fun ls hl => ?_)
  exact w_X12_common_b4 cx hr mh_fu _ _ h _ _ ls wd (lv_sub hl [1, 0] rfl) hX
set_option maxRecDepth 100000 in
theorem c_X12_common {l : Launch} {L : List Nat} {h h' : mh_H} {r : Int32} {x0 : Int32} {x1 : Int32} (hX : f_X12_common_e x0 x1 h = some (r, h')) : mh_MI l yX12_common (Cond.code yX12_common cX12_common 5 (some .int) :: mh_TB) (mh_rm 0) [.int x0, .int x1] L h r h' :=
  mh_of (mc := 0) (ms := 0) (Qc := fun D ks sz => mh_Qi D ks L sz r h') (plainFor_of_name (by decide)) (Nat.le_of_ble_eq_true rfl) (fun p e s m below meth c D ks ls hr cx wd hl => by
    have hl : lv_has ls 5 [(0, .int x0), (1, .int x1)] := hl
    exact w_X12_common_e cx hr x0 x1 h _ _ ls wd hl hX)
def f_X12_divisorOf_b39 (x2 : Int32) (h : mh_H) : Option (Int32 × mh_H) :=
  some (x2, h)
def f_X12_divisorOf_b4 : Nat → Nat → Int32 → Int32 → Int32 → mh_H → Option (Int32 × mh_H)
  | 0, _, _, _, _, _ => none
  | n + 1, o0, x1, x2, x3, h =>
    (mh_gR h o0 12 1).bind fun a1 =>
    mh_b2 (f_X12_mintAt_e x1 h) fun v3 h2 =>
    (mh_aI h2 a1 0 v3).bind fun v4 =>
    if v4 < x3 then (
    f_X12_divisorOf_b39 x2 h2) else
    (mh_gR h2 o0 12 1).bind fun a5 =>
    mh_b2 (f_X12_mintAt_e x1 h2) fun v7 h6 =>
    (mh_aI h6 a5 0 (v7 + x3)).bind fun v8 =>
    mh_b2 (f_X12_common_e v8 x2 h6) fun v10 h9 =>
    mh_nm (x3 + Int32.ofInt (1)) fun v11 =>
    f_X12_divisorOf_b4 n o0 x1 v10 v11 h9
def f_X12_divisorOf_e (o0 : Nat) (x1 : Int32) (h : mh_H) : Option (Int32 × mh_H) :=
  mh_nm (0 : Int32) fun v12 =>
  mh_nm (1 : Int32) fun v13 =>
  f_X12_divisorOf_b4 mh_fu o0 x1 v12 v13 h
set_option maxRecDepth 100000 in
set_option maxHeartbeats 4000000 in
theorem w_X12_divisorOf_b39 {p : Program} {l : Launch} {e : Env} {s : State} {m : MethodId} {args : Array Value} {below : List Frame} {meth : Method} {c : Code} {D : va_G} {ks : Nat → ClassId} {L : List Nat} {r : Int32} {h' : mh_H} (cx : mh_C p m c cX12_divisorOf 4 s args RX12 meth D ks (mh_A L s.heap.size)) (hr : meth.sig.returnType = (some .int)) :
    ∀ (x2 : Int32) (h : mh_H) (H : Heap) (locs : List Loc) (ls : Array Slot), mh_W D ks L (mh_A L s.heap.size) s.heap h H locs → lv_has ls 4 [(2, .int x2)] → f_X12_divisorOf_b39 x2 h = some (r, h') → W p l e (mh_rm 1) s m args below meth c H locs 0 0 (MQ below (mh_Qi D ks L s.heap.size r h') args s 0 0 (mh_A L s.heap.size)) (F0 m 39 ls []) := by
  intro x2 h H locs ls wd hl hX
  have hx := cx.1.1
  have hb := cx.1.2.1
  unfold f_X12_divisorOf_b39 at hX
  refine lv_iload_n hx hb dX12_divisorOf_39 rfl (lv_at hl 0 rfl) ?_
  exact mh_iret cx wd hr hX dX12_divisorOf_40
set_option maxRecDepth 100000 in
set_option maxHeartbeats 4000000 in
theorem w_X12_divisorOf_b4 {p : Program} {l : Launch} {e : Env} {s : State} {m : MethodId} {args : Array Value} {below : List Frame} {meth : Method} {c : Code} {D : va_G} {ks : Nat → ClassId} {L : List Nat} {r : Int32} {h' : mh_H} (cx : mh_C p m c cX12_divisorOf 4 s args RX12 meth D ks (mh_A L s.heap.size)) (hr : meth.sig.returnType = (some .int)) :
    ∀ n : Nat, ∀ (o0 : Nat) (x1 : Int32) (x2 : Int32) (x3 : Int32) (h : mh_H) (H : Heap) (locs : List Loc) (ls : Array Slot), mh_W D ks L (mh_A L s.heap.size) s.heap h H locs → lv_has ls 4 [(0, .ref o0), (1, .int x1), (2, .int x2), (3, .int x3)] → f_X12_divisorOf_b4 n o0 x1 x2 x3 h = some (r, h') → W p l e (mh_rm 1) s m args below meth c H locs 0 0 (MQ below (mh_Qi D ks L s.heap.size r h') args s 0 0 (mh_A L s.heap.size)) (F0 m 4 ls []) := by
  intro n
  induction n with
  | zero =>
    intro o0 x1 x2 x3 h H locs ls wd hl hX
    cases hX
  | succ n ih =>
    intro o0 x1 x2 x3 h H locs ls wd hl hX
    have hx := cx.1.1
    have hb := cx.1.2.1
    rw [f_X12_divisorOf_b4] at hX
    refine lv_iload_n hx hb dX12_divisorOf_4 rfl (lv_at hl 3 rfl) ?_
    refine lv_aload_n hx hb dX12_divisorOf_5 rfl (lv_at hl 0 rfl) ?_
    refine mh_getR cx wd fl_X12_9 dX12_divisorOf_6 hX (fun a1 hX => ?_)
    refine lv_iload_n hx hb dX12_divisorOf_9 rfl (lv_at hl 1 rfl) ?_
    refine mh_callSI cx wd [.int x1] yw_X12_mintAt sw_X12_115 rfl hl.1 rfl (Nat.le_of_ble_eq_true rfl) dX12_divisorOf_10 ⟨Nat.le_of_ble_eq_true rfl, Nat.le_of_ble_eq_true rfl⟩ ⟨Nat.le_refl _, Nat.le_refl _⟩ (fun _ _ q => c_X12_mintAt q) hX (fun v3 h2 H locs wd hX => ?_)
    refine mh_iald cx wd dX12_divisorOf_13 hX (fun v4 hX => ?_)
    refine lv_icmp_gt (tgt := 39) hx hb dX12_divisorOf_14 rfl (fun hc => (fun hX => ?_) ((mh_if hX).1 hc)) (fun hc => (fun hX => ?_) ((mh_if hX).2 hc))
    · exact w_X12_divisorOf_b39 cx hr _ h2 _ _ ls wd (lv_sub hl [2] rfl) hX
    · refine lv_aload_n hx hb dX12_divisorOf_17 rfl (lv_at hl 0 rfl) ?_
      refine mh_getR cx wd fl_X12_9 dX12_divisorOf_18 hX (fun a5 hX => ?_)
      refine lv_iload_n hx hb dX12_divisorOf_21 rfl (lv_at hl 1 rfl) ?_
      refine mh_callSI cx wd [.int x1] yw_X12_mintAt sw_X12_115 rfl hl.1 rfl (Nat.le_of_ble_eq_true rfl) dX12_divisorOf_22 ⟨Nat.le_of_ble_eq_true rfl, Nat.le_of_ble_eq_true rfl⟩ ⟨Nat.le_refl _, Nat.le_refl _⟩ (fun _ _ q => c_X12_mintAt q) hX (fun v7 h6 H locs wd hX => ?_)
      refine lv_iload_n hx hb dX12_divisorOf_25 rfl (lv_at hl 3 rfl) ?_
      refine lv_iadd hx hb dX12_divisorOf_26 ?_
      refine mh_iald cx wd dX12_divisorOf_27 hX (fun v8 hX => ?_)
      refine lv_iload_n hx hb dX12_divisorOf_28 rfl (lv_at hl 2 rfl) ?_
      refine mh_callSI cx wd [.int v8, .int x2] yw_X12_common sw_X12_165 rfl hl.1 rfl (Nat.le_of_ble_eq_true rfl) dX12_divisorOf_29 ⟨Nat.le_of_ble_eq_true rfl, Nat.le_of_ble_eq_true rfl⟩ ⟨Nat.le_refl _, Nat.le_refl _⟩ (fun _ _ q => c_X12_common q) hX (fun v10 h9 H locs wd hX => ?_)
      refine lv_istore_n (lv' := [(2, .int v10), (0, .ref o0), (1, .int x1), (3, .int x3)]) hx hb dX12_divisorOf_32 rfl hl (Nat.le_of_ble_eq_true rfl) rfl (fun ls hl => ?_)
      obtain ⟨v11, ev11, hX⟩ := mh_nmx hX
      refine lv_iinc (k := 3) (v := v11) (lv' := [(3, .int v11), (2, .int v10), (0, .ref o0), (1, .int x1)]) hx hb dX12_divisorOf_33 hl rfl ev11 (Nat.le_of_ble_eq_true rfl) rfl (fun ls hl => ?_)
      refine lv_goto (tgt := 4) hx hb dX12_divisorOf_36 rfl ?_
      exact ih _ _ _ _ h9 _ _ ls wd (lv_sub hl [2, 3, 1, 0] rfl) hX
set_option maxRecDepth 100000 in
set_option maxHeartbeats 4000000 in
theorem w_X12_divisorOf_e {p : Program} {l : Launch} {e : Env} {s : State} {m : MethodId} {args : Array Value} {below : List Frame} {meth : Method} {c : Code} {D : va_G} {ks : Nat → ClassId} {L : List Nat} {r : Int32} {h' : mh_H} (cx : mh_C p m c cX12_divisorOf 4 s args RX12 meth D ks (mh_A L s.heap.size)) (hr : meth.sig.returnType = (some .int)) :
    ∀ (o0 : Nat) (x1 : Int32) (h : mh_H) (H : Heap) (locs : List Loc) (ls : Array Slot), mh_W D ks L (mh_A L s.heap.size) s.heap h H locs → lv_has ls 4 [(0, .ref o0), (1, .int x1)] → f_X12_divisorOf_e o0 x1 h = some (r, h') → W p l e (mh_rm 1) s m args below meth c H locs 0 0 (MQ below (mh_Qi D ks L s.heap.size r h') args s 0 0 (mh_A L s.heap.size)) (F0 m 0 ls []) := by
  intro o0 x1 h H locs ls wd hl hX
  have hx := cx.1.1
  have hb := cx.1.2.1
  unfold f_X12_divisorOf_e at hX
  refine lv_iconst (v := 0) hx hb dX12_divisorOf_0 (by decide) ?_
  refine mh_topi hX (fun v12 hX => ?_)
  refine lv_istore_n (lv' := [(2, .int v12), (0, .ref o0), (1, .int x1)]) hx hb dX12_divisorOf_1 rfl hl (Nat.le_of_ble_eq_true rfl) rfl (fun ls hl => ?_)
  refine lv_iconst (v := 1) hx hb dX12_divisorOf_2 (by decide) ?_
  refine mh_topi hX (fun v13 hX => ?_)
  refine lv_istore_n (lv' := [(3, .int v13), (2, .int v12), (0, .ref o0), (1, .int x1)]) hx hb dX12_divisorOf_3 rfl hl (Nat.le_of_ble_eq_true rfl) rfl (fun ls hl => ?_)
  exact w_X12_divisorOf_b4 cx hr mh_fu _ _ _ _ h _ _ ls wd (lv_sub hl [2, 3, 1, 0] rfl) hX
set_option maxRecDepth 100000 in
theorem c_X12_divisorOf {l : Launch} {L : List Nat} {h h' : mh_H} {r : Int32} {o0 : Nat} {x1 : Int32} (hX : f_X12_divisorOf_e o0 x1 h = some (r, h')) : mh_MI l yX12_divisorOf (Cond.code yX12_divisorOf cX12_divisorOf 4 (some .int) :: mh_TB) (mh_rm 1) [.ref o0, .int x1] L h r h' :=
  mh_of (mc := 0) (ms := 0) (Qc := fun D ks sz => mh_Qi D ks L sz r h') (plainFor_of_name (by decide)) (Nat.le_of_ble_eq_true rfl) (fun p e s m below meth c D ks ls hr cx wd hl => by
    have hl : lv_has ls 4 [(0, .ref o0), (1, .int x1)] := hl
    exact w_X12_divisorOf_e cx hr o0 x1 h _ _ ls wd hl hX)
def f_X12_divisor_e (o0 : Nat) (x1 : Int32) (h : mh_H) : Option (Int32 × mh_H) :=
  (mh_pI h o0 12 0 (0 : Int32)).bind fun h1 =>
  mh_b2 (f_X12_isMint_e x1 h1) fun v3 h2 =>
  if v3 = 0 then (
  mh_b2 (mh_cal h2 o0 12 (f_X12_fail_e o0 (1 : Int32) h2)) fun v7 h6 =>
  some (v7, h6)) else
  mh_b2 (mh_cal h2 o0 12 (f_X12_divisorOf_e o0 x1 h2)) fun v5 h4 =>
  some (v5, h4)
set_option maxRecDepth 100000 in
set_option maxHeartbeats 4000000 in
theorem w_X12_divisor_e {p : Program} {l : Launch} {e : Env} {s : State} {m : MethodId} {args : Array Value} {below : List Frame} {meth : Method} {c : Code} {D : va_G} {ks : Nat → ClassId} {L : List Nat} {r : Int32} {h' : mh_H} (cx : mh_C p m c cX12_divisor 2 s args RX12 meth D ks (mh_A L s.heap.size)) (hr : meth.sig.returnType = (some .int)) :
    ∀ (o0 : Nat) (x1 : Int32) (h : mh_H) (H : Heap) (locs : List Loc) (ls : Array Slot), mh_W D ks L (mh_A L s.heap.size) s.heap h H locs → lv_has ls 2 [(0, .ref o0), (1, .int x1)] → f_X12_divisor_e o0 x1 h = some (r, h') → W p l e (mh_rm 2) s m args below meth c H locs 0 0 (MQ below (mh_Qi D ks L s.heap.size r h') args s 0 0 (mh_A L s.heap.size)) (F0 m 0 ls []) := by
  intro o0 x1 h H locs ls wd hl hX
  have hx := cx.1.1
  have hb := cx.1.2.1
  unfold f_X12_divisor_e at hX
  refine lv_aload_n hx hb dX12_divisor_0 rfl (lv_at hl 0 rfl) ?_
  refine lv_iconst (v := 0) hx hb dX12_divisor_1 (by decide) ?_
  refine mh_putI cx wd fp_X12_96 dX12_divisor_2 hX (fun h1 H locs wd hX => ?_)
  refine lv_iload_n hx hb dX12_divisor_5 rfl (lv_at hl 1 rfl) ?_
  refine mh_callSI cx wd [.int x1] yw_X12_isMint sw_X12_111 rfl hl.1 rfl (Nat.le_of_ble_eq_true rfl) dX12_divisor_6 ⟨Nat.le_of_ble_eq_true rfl, Nat.le_of_ble_eq_true rfl⟩ ⟨Nat.le_refl _, Nat.le_refl _⟩ (fun _ _ q => c_X12_isMint q) hX (fun v3 h2 H locs wd hX => ?_)
  refine lv_if_ne (tgt := 18) hx hb dX12_divisor_9 rfl (fun hc => (fun hX => ?_) ((mh_if hX).2 hc)) (fun hc => (fun hX => ?_) ((mh_if hX).1 hc))
  · refine lv_aload_n hx hb dX12_divisor_18 rfl (lv_at hl 0 rfl) ?_
    refine lv_iload_n hx hb dX12_divisor_19 rfl (lv_at hl 1 rfl) ?_
    refine mh_callVI cx wd [.int x1] (rfl : vwCl[12]? = some (RX12, TX12, 38)) yw_X12_divisorOf vw_X12_168 rfl hl.1 rfl (Nat.le_of_ble_eq_true rfl) dX12_divisor_20 ⟨Nat.le_of_ble_eq_true rfl, Nat.le_of_ble_eq_true rfl⟩ ⟨Nat.le_refl _, Nat.le_refl _⟩ (fun _ _ q => c_X12_divisorOf q) hX (fun v5 h4 H locs wd hX => ?_)
    exact mh_iret cx wd hr hX dX12_divisor_23
  · refine lv_aload_n hx hb dX12_divisor_12 rfl (lv_at hl 0 rfl) ?_
    refine lv_iconst (v := 1) hx hb dX12_divisor_13 (by decide) ?_
    refine mh_callVI cx wd [.int (1 : Int32)] (rfl : vwCl[12]? = some (RX12, TX12, 38)) yw_X12_fail vw_X12_122 rfl hl.1 rfl (Nat.le_of_ble_eq_true rfl) dX12_divisor_14 ⟨Nat.le_of_ble_eq_true rfl, Nat.le_of_ble_eq_true rfl⟩ ⟨Nat.le_refl _, Nat.le_refl _⟩ (fun _ _ q => c_X12_fail q) hX (fun v7 h6 H locs wd hX => ?_)
    exact mh_iret cx wd hr hX dX12_divisor_17
set_option maxRecDepth 100000 in
theorem c_X12_divisor {l : Launch} {L : List Nat} {h h' : mh_H} {r : Int32} {o0 : Nat} {x1 : Int32} (hX : f_X12_divisor_e o0 x1 h = some (r, h')) : mh_MI l yX12_divisor (Cond.code yX12_divisor cX12_divisor 2 (some .int) :: mh_TB) (mh_rm 2) [.ref o0, .int x1] L h r h' :=
  mh_of (mc := 0) (ms := 0) (Qc := fun D ks sz => mh_Qi D ks L sz r h') (plainFor_of_name (by decide)) (Nat.le_of_ble_eq_true rfl) (fun p e s m below meth c D ks ls hr cx wd hl => by
    have hl : lv_has ls 2 [(0, .ref o0), (1, .int x1)] := hl
    exact w_X12_divisor_e cx hr o0 x1 h _ _ ls wd hl hX)
def f_X12_isPaid_b21 (t0 : Int32) (h : mh_H) : Option (Int32 × mh_H) :=
  mh_rz t0 h
def f_X12_isPaid_e (o0 : Nat) (x1 : Int32) (h : mh_H) : Option (Int32 × mh_H) :=
  (mh_gR h o0 12 8).bind fun a1 =>
  (mh_gI h o0 12 7).bind fun v2 =>
  (mh_aR h a1 5 v2).bind fun a3 =>
  (mh_aI h a3 0 x1).bind fun v4 =>
  if (536870912 : Int32) ≤ v4 then (
  f_X12_isPaid_b21 (0 : Int32) h) else
  f_X12_isPaid_b21 (1 : Int32) h
set_option maxRecDepth 100000 in
set_option maxHeartbeats 4000000 in
theorem w_X12_isPaid_b21 {p : Program} {l : Launch} {e : Env} {s : State} {m : MethodId} {args : Array Value} {below : List Frame} {meth : Method} {c : Code} {D : va_G} {ks : Nat → ClassId} {L : List Nat} {r : Int32} {h' : mh_H} (cx : mh_C p m c cX12_isPaid 2 s args RX12 meth D ks (mh_A L s.heap.size)) (hr : meth.sig.returnType = (some .boolean)) :
    ∀ (t0 : Int32) (h : mh_H) (H : Heap) (locs : List Loc) (ls : Array Slot), mh_W D ks L (mh_A L s.heap.size) s.heap h H locs → lv_has ls 2 [] → f_X12_isPaid_b21 t0 h = some (r, h') → W p l e (mh_rm 0) s m args below meth c H locs 0 0 (MQ below (mh_Qi D ks L s.heap.size r h') args s 0 0 (mh_A L s.heap.size)) (F0 m 21 ls [.int t0]) := by
  intro t0 h H locs ls wd hl hX
  have hx := cx.1.1
  have hb := cx.1.2.1
  unfold f_X12_isPaid_b21 at hX
  exact mh_zret cx wd hr hX dX12_isPaid_21
set_option maxRecDepth 100000 in
set_option maxHeartbeats 4000000 in
theorem w_X12_isPaid_e {p : Program} {l : Launch} {e : Env} {s : State} {m : MethodId} {args : Array Value} {below : List Frame} {meth : Method} {c : Code} {D : va_G} {ks : Nat → ClassId} {L : List Nat} {r : Int32} {h' : mh_H} (cx : mh_C p m c cX12_isPaid 2 s args RX12 meth D ks (mh_A L s.heap.size)) (hr : meth.sig.returnType = (some .boolean)) :
    ∀ (o0 : Nat) (x1 : Int32) (h : mh_H) (H : Heap) (locs : List Loc) (ls : Array Slot), mh_W D ks L (mh_A L s.heap.size) s.heap h H locs → lv_has ls 2 [(0, .ref o0), (1, .int x1)] → f_X12_isPaid_e o0 x1 h = some (r, h') → W p l e (mh_rm 0) s m args below meth c H locs 0 0 (MQ below (mh_Qi D ks L s.heap.size r h') args s 0 0 (mh_A L s.heap.size)) (F0 m 0 ls []) := by
  intro o0 x1 h H locs ls wd hl hX
  have hx := cx.1.1
  have hb := cx.1.2.1
  unfold f_X12_isPaid_e at hX
  refine lv_aload_n hx hb dX12_isPaid_0 rfl (lv_at hl 0 rfl) ?_
  refine mh_getR cx wd fl_X12_26 dX12_isPaid_1 hX (fun a1 hX => ?_)
  refine lv_aload_n hx hb dX12_isPaid_4 rfl (lv_at hl 0 rfl) ?_
  refine mh_getI cx wd fl_X12_21 dX12_isPaid_5 hX (fun v2 hX => ?_)
  refine mh_aald cx wd 5 rfl rfl dX12_isPaid_8 hX (fun a3 hX => ?_)
  refine lv_iload_n hx hb dX12_isPaid_9 rfl (lv_at hl 1 rfl) ?_
  refine mh_iald cx wd dX12_isPaid_10 hX (fun v4 hX => ?_)
  refine mh_ldc cx kc_X12_126 dX12_isPaid_11 ?_
  refine lv_icmp_ge (tgt := 20) hx hb dX12_isPaid_13 rfl (fun hc => (fun hX => ?_) ((mh_if hX).1 hc)) (fun hc => (fun hX => ?_) ((mh_if hX).2 hc))
  · refine lv_iconst (v := 0) hx hb dX12_isPaid_20 (by decide) ?_
    exact w_X12_isPaid_b21 cx hr _ h _ _ ls wd (lv_sub hl [] rfl) hX
  · refine lv_iconst (v := 1) hx hb dX12_isPaid_16 (by decide) ?_
    refine lv_goto (tgt := 21) hx hb dX12_isPaid_17 rfl ?_
    exact w_X12_isPaid_b21 cx hr _ h _ _ ls wd (lv_sub hl [] rfl) hX
set_option maxRecDepth 100000 in
theorem c_X12_isPaid {l : Launch} {L : List Nat} {h h' : mh_H} {r : Int32} {o0 : Nat} {x1 : Int32} (hX : f_X12_isPaid_e o0 x1 h = some (r, h')) : mh_MI l yX12_isPaid (Cond.code yX12_isPaid cX12_isPaid 2 (some .boolean) :: mh_TB) (mh_rm 0) [.ref o0, .int x1] L h r h' :=
  mh_of (mc := 0) (ms := 0) (Qc := fun D ks sz => mh_Qi D ks L sz r h') (plainFor_of_name (by decide)) (Nat.le_of_ble_eq_true rfl) (fun p e s m below meth c D ks ls hr cx wd hl => by
    have hl : lv_has ls 2 [(0, .ref o0), (1, .int x1)] := hl
    exact w_X12_isPaid_e cx hr o0 x1 h _ _ ls wd hl hX)
def f_X12_gaps_b24 (k4 : Nat → Int32 → Int32 → mh_H → Option (Int32 × mh_H)) (o0 : Nat) (x2 : Int32) (t0 : Int32) (t1 : Int32) (h : mh_H) : Option (Int32 × mh_H) :=
  mh_nm (t0 + t1) fun v1 =>
  mh_nm (x2 + Int32.ofInt (1)) fun v2 =>
  k4 o0 v1 v2 h
def f_X12_gaps_b32 (x1 : Int32) (h : mh_H) : Option (Int32 × mh_H) :=
  some (x1, h)
def f_X12_gaps_b4 : Nat → Nat → Int32 → Int32 → mh_H → Option (Int32 × mh_H)
  | 0, _, _, _, _ => none
  | n + 1, o0, x1, x2, h =>
    if (100300 : Int32) < x2 then (
    f_X12_gaps_b32 x1 h) else
    mh_b2 (mh_cal h o0 12 (f_X12_isPaid_e o0 x2 h)) fun v4 h3 =>
    if v4 = 0 then (
    f_X12_gaps_b24 (f_X12_gaps_b4 n) o0 x2 x1 (1 : Int32) h3) else
    f_X12_gaps_b24 (f_X12_gaps_b4 n) o0 x2 x1 (0 : Int32) h3
def f_X12_gaps_e (o0 : Nat) (h : mh_H) : Option (Int32 × mh_H) :=
  mh_nm (0 : Int32) fun v5 =>
  mh_nm (1 : Int32) fun v6 =>
  f_X12_gaps_b4 mh_fu o0 v5 v6 h
set_option maxRecDepth 100000 in
set_option maxHeartbeats 4000000 in
theorem w_X12_gaps_b24 {p : Program} {l : Launch} {e : Env} {s : State} {m : MethodId} {args : Array Value} {below : List Frame} {meth : Method} {c : Code} {D : va_G} {ks : Nat → ClassId} {L : List Nat} {r : Int32} {h' : mh_H} (k4 : Nat → Int32 → Int32 → mh_H → Option (Int32 × mh_H)) (cx : mh_C p m c cX12_gaps 3 s args RX12 meth D ks (mh_A L s.heap.size)) (hr : meth.sig.returnType = (some .int))
    (hk4 : ∀ (o0 : Nat) (x1 : Int32) (x2 : Int32) (h : mh_H) (H : Heap) (locs : List Loc) (ls : Array Slot), mh_W D ks L (mh_A L s.heap.size) s.heap h H locs → lv_has ls 3 [(0, .ref o0), (1, .int x1), (2, .int x2)] → k4 o0 x1 x2 h = some (r, h') → W p l e (mh_rm 1) s m args below meth c H locs 0 0 (MQ below (mh_Qi D ks L s.heap.size r h') args s 0 0 (mh_A L s.heap.size)) (F0 m 4 ls [])) :
    ∀ (o0 : Nat) (x2 : Int32) (t0 : Int32) (t1 : Int32) (h : mh_H) (H : Heap) (locs : List Loc) (ls : Array Slot), mh_W D ks L (mh_A L s.heap.size) s.heap h H locs → lv_has ls 3 [(0, .ref o0), (2, .int x2)] → f_X12_gaps_b24 k4 o0 x2 t0 t1 h = some (r, h') → W p l e (mh_rm 1) s m args below meth c H locs 0 0 (MQ below (mh_Qi D ks L s.heap.size r h') args s 0 0 (mh_A L s.heap.size)) (F0 m 24 ls [.int t1, .int t0]) := by
  intro o0 x2 t0 t1 h H locs ls wd hl hX
  have hx := cx.1.1
  have hb := cx.1.2.1
  unfold f_X12_gaps_b24 at hX
  refine lv_iadd hx hb dX12_gaps_24 ?_
  refine mh_topi hX (fun v1 hX => ?_)
  refine lv_istore_n (lv' := [(1, .int v1), (0, .ref o0), (2, .int x2)]) hx hb dX12_gaps_25 rfl hl (Nat.le_of_ble_eq_true rfl) rfl (fun ls hl => ?_)
  obtain ⟨v2, ev2, hX⟩ := mh_nmx hX
  refine lv_iinc (k := 2) (v := v2) (lv' := [(2, .int v2), (1, .int v1), (0, .ref o0)]) hx hb dX12_gaps_26 hl rfl ev2 (Nat.le_of_ble_eq_true rfl) rfl (fun ls hl => ?_)
  refine lv_goto (tgt := 4) hx hb dX12_gaps_29 rfl ?_
  exact hk4 _ _ _ h _ _ ls wd (lv_sub hl [2, 1, 0] rfl) hX
set_option maxRecDepth 100000 in
set_option maxHeartbeats 4000000 in
theorem w_X12_gaps_b32 {p : Program} {l : Launch} {e : Env} {s : State} {m : MethodId} {args : Array Value} {below : List Frame} {meth : Method} {c : Code} {D : va_G} {ks : Nat → ClassId} {L : List Nat} {r : Int32} {h' : mh_H} (cx : mh_C p m c cX12_gaps 3 s args RX12 meth D ks (mh_A L s.heap.size)) (hr : meth.sig.returnType = (some .int)) :
    ∀ (x1 : Int32) (h : mh_H) (H : Heap) (locs : List Loc) (ls : Array Slot), mh_W D ks L (mh_A L s.heap.size) s.heap h H locs → lv_has ls 3 [(1, .int x1)] → f_X12_gaps_b32 x1 h = some (r, h') → W p l e (mh_rm 1) s m args below meth c H locs 0 0 (MQ below (mh_Qi D ks L s.heap.size r h') args s 0 0 (mh_A L s.heap.size)) (F0 m 32 ls []) := by
  intro x1 h H locs ls wd hl hX
  have hx := cx.1.1
  have hb := cx.1.2.1
  unfold f_X12_gaps_b32 at hX
  refine lv_iload_n hx hb dX12_gaps_32 rfl (lv_at hl 0 rfl) ?_
  exact mh_iret cx wd hr hX dX12_gaps_33
set_option maxRecDepth 100000 in
set_option maxHeartbeats 4000000 in
theorem w_X12_gaps_b4 {p : Program} {l : Launch} {e : Env} {s : State} {m : MethodId} {args : Array Value} {below : List Frame} {meth : Method} {c : Code} {D : va_G} {ks : Nat → ClassId} {L : List Nat} {r : Int32} {h' : mh_H} (cx : mh_C p m c cX12_gaps 3 s args RX12 meth D ks (mh_A L s.heap.size)) (hr : meth.sig.returnType = (some .int)) :
    ∀ n : Nat, ∀ (o0 : Nat) (x1 : Int32) (x2 : Int32) (h : mh_H) (H : Heap) (locs : List Loc) (ls : Array Slot), mh_W D ks L (mh_A L s.heap.size) s.heap h H locs → lv_has ls 3 [(0, .ref o0), (1, .int x1), (2, .int x2)] → f_X12_gaps_b4 n o0 x1 x2 h = some (r, h') → W p l e (mh_rm 1) s m args below meth c H locs 0 0 (MQ below (mh_Qi D ks L s.heap.size r h') args s 0 0 (mh_A L s.heap.size)) (F0 m 4 ls []) := by
  intro n
  induction n with
  | zero =>
    intro o0 x1 x2 h H locs ls wd hl hX
    cases hX
  | succ n ih =>
    intro o0 x1 x2 h H locs ls wd hl hX
    have hx := cx.1.1
    have hb := cx.1.2.1
    rw [f_X12_gaps_b4] at hX
    refine lv_iload_n hx hb dX12_gaps_4 rfl (lv_at hl 2 rfl) ?_
    refine mh_ldc cx kc_X12_125 dX12_gaps_5 ?_
    refine lv_icmp_gt (tgt := 32) hx hb dX12_gaps_7 rfl (fun hc => (fun hX => ?_) ((mh_if hX).1 hc)) (fun hc => (fun hX => ?_) ((mh_if hX).2 hc))
    · exact w_X12_gaps_b32 cx hr _ h _ _ ls wd (lv_sub hl [1] rfl) hX
    · refine lv_iload_n hx hb dX12_gaps_10 rfl (lv_at hl 1 rfl) ?_
      refine lv_aload_n hx hb dX12_gaps_11 rfl (lv_at hl 0 rfl) ?_
      refine lv_iload_n hx hb dX12_gaps_12 rfl (lv_at hl 2 rfl) ?_
      refine mh_callVI cx wd [.int x2] (rfl : vwCl[12]? = some (RX12, TX12, 38)) yw_X12_isPaid vw_X12_171 rfl hl.1 rfl (Nat.le_of_ble_eq_true rfl) dX12_gaps_13 ⟨Nat.le_of_ble_eq_true rfl, Nat.le_of_ble_eq_true rfl⟩ ⟨Nat.le_refl _, Nat.le_refl _⟩ (fun _ _ q => c_X12_isPaid q) hX (fun v4 h3 H locs wd hX => ?_)
      refine lv_if_eq (tgt := 23) hx hb dX12_gaps_16 rfl (fun hc => (fun hX => ?_) ((mh_if hX).1 hc)) (fun hc => (fun hX => ?_) ((mh_if hX).2 hc))
      · refine lv_iconst (v := 1) hx hb dX12_gaps_23 (by decide) ?_
        exact w_X12_gaps_b24 (f_X12_gaps_b4 n) cx hr ih _ _ _ _ h3 _ _ ls wd (lv_sub hl [0, 2] rfl) hX
      · refine lv_iconst (v := 0) hx hb dX12_gaps_19 (by decide) ?_
        refine lv_goto (tgt := 24) hx hb dX12_gaps_20 rfl ?_
        exact w_X12_gaps_b24 (f_X12_gaps_b4 n) cx hr ih _ _ _ _ h3 _ _ ls wd (lv_sub hl [0, 2] rfl) hX
set_option maxRecDepth 100000 in
set_option maxHeartbeats 4000000 in
theorem w_X12_gaps_e {p : Program} {l : Launch} {e : Env} {s : State} {m : MethodId} {args : Array Value} {below : List Frame} {meth : Method} {c : Code} {D : va_G} {ks : Nat → ClassId} {L : List Nat} {r : Int32} {h' : mh_H} (cx : mh_C p m c cX12_gaps 3 s args RX12 meth D ks (mh_A L s.heap.size)) (hr : meth.sig.returnType = (some .int)) :
    ∀ (o0 : Nat) (h : mh_H) (H : Heap) (locs : List Loc) (ls : Array Slot), mh_W D ks L (mh_A L s.heap.size) s.heap h H locs → lv_has ls 3 [(0, .ref o0)] → f_X12_gaps_e o0 h = some (r, h') → W p l e (mh_rm 1) s m args below meth c H locs 0 0 (MQ below (mh_Qi D ks L s.heap.size r h') args s 0 0 (mh_A L s.heap.size)) (F0 m 0 ls []) := by
  intro o0 h H locs ls wd hl hX
  have hx := cx.1.1
  have hb := cx.1.2.1
  unfold f_X12_gaps_e at hX
  refine lv_iconst (v := 0) hx hb dX12_gaps_0 (by decide) ?_
  refine mh_topi hX (fun v5 hX => ?_)
  refine lv_istore_n (lv' := [(1, .int v5), (0, .ref o0)]) hx hb dX12_gaps_1 rfl hl (Nat.le_of_ble_eq_true rfl) rfl (fun ls hl => ?_)
  refine lv_iconst (v := 1) hx hb dX12_gaps_2 (by decide) ?_
  refine mh_topi hX (fun v6 hX => ?_)
  refine lv_istore_n (lv' := [(2, .int v6), (1, .int v5), (0, .ref o0)]) hx hb dX12_gaps_3 rfl hl (Nat.le_of_ble_eq_true rfl) rfl (fun ls hl => ?_)
  exact w_X12_gaps_b4 cx hr mh_fu _ _ _ h _ _ ls wd (lv_sub hl [2, 1, 0] rfl) hX
set_option maxRecDepth 100000 in
theorem c_X12_gaps {l : Launch} {L : List Nat} {h h' : mh_H} {r : Int32} {o0 : Nat} (hX : f_X12_gaps_e o0 h = some (r, h')) : mh_MI l yX12_gaps (Cond.code yX12_gaps cX12_gaps 3 (some .int) :: mh_TB) (mh_rm 1) [.ref o0] L h r h' :=
  mh_of (mc := 0) (ms := 0) (Qc := fun D ks sz => mh_Qi D ks L sz r h') (plainFor_of_name (by decide)) (Nat.le_of_ble_eq_true rfl) (fun p e s m below meth c D ks ls hr cx wd hl => by
    have hl : lv_has ls 3 [(0, .ref o0)] := hl
    exact w_X12_gaps_e cx hr o0 h _ _ ls wd hl hX)
def f_X12_lastGap_b20 (k4 : Nat → Int32 → Int32 → mh_H → Option (Int32 × mh_H)) (o0 : Nat) (x1 : Int32) (x2 : Int32) (h : mh_H) : Option (Int32 × mh_H) :=
  mh_nm (x2 + Int32.ofInt (1)) fun v1 =>
  k4 o0 x1 v1 h
def f_X12_lastGap_b26 (x1 : Int32) (h : mh_H) : Option (Int32 × mh_H) :=
  some (x1, h)
def f_X12_lastGap_b4 : Nat → Nat → Int32 → Int32 → mh_H → Option (Int32 × mh_H)
  | 0, _, _, _, _ => none
  | n + 1, o0, x1, x2, h =>
    if (100300 : Int32) < x2 then (
    f_X12_lastGap_b26 x1 h) else
    mh_b2 (mh_cal h o0 12 (f_X12_isPaid_e o0 x2 h)) fun v3 h2 =>
    if v3 = 0 then (
    f_X12_lastGap_b20 (f_X12_lastGap_b4 n) o0 x2 x2 h2) else
    f_X12_lastGap_b20 (f_X12_lastGap_b4 n) o0 x1 x2 h2
def f_X12_lastGap_e (o0 : Nat) (h : mh_H) : Option (Int32 × mh_H) :=
  mh_nm (-1 : Int32) fun v4 =>
  mh_nm (1 : Int32) fun v5 =>
  f_X12_lastGap_b4 mh_fu o0 v4 v5 h
set_option maxRecDepth 100000 in
set_option maxHeartbeats 4000000 in
theorem w_X12_lastGap_b20 {p : Program} {l : Launch} {e : Env} {s : State} {m : MethodId} {args : Array Value} {below : List Frame} {meth : Method} {c : Code} {D : va_G} {ks : Nat → ClassId} {L : List Nat} {r : Int32} {h' : mh_H} (k4 : Nat → Int32 → Int32 → mh_H → Option (Int32 × mh_H)) (cx : mh_C p m c cX12_lastGap 3 s args RX12 meth D ks (mh_A L s.heap.size)) (hr : meth.sig.returnType = (some .int))
    (hk4 : ∀ (o0 : Nat) (x1 : Int32) (x2 : Int32) (h : mh_H) (H : Heap) (locs : List Loc) (ls : Array Slot), mh_W D ks L (mh_A L s.heap.size) s.heap h H locs → lv_has ls 3 [(0, .ref o0), (1, .int x1), (2, .int x2)] → k4 o0 x1 x2 h = some (r, h') → W p l e (mh_rm 1) s m args below meth c H locs 0 0 (MQ below (mh_Qi D ks L s.heap.size r h') args s 0 0 (mh_A L s.heap.size)) (F0 m 4 ls [])) :
    ∀ (o0 : Nat) (x1 : Int32) (x2 : Int32) (h : mh_H) (H : Heap) (locs : List Loc) (ls : Array Slot), mh_W D ks L (mh_A L s.heap.size) s.heap h H locs → lv_has ls 3 [(0, .ref o0), (1, .int x1), (2, .int x2)] → f_X12_lastGap_b20 k4 o0 x1 x2 h = some (r, h') → W p l e (mh_rm 1) s m args below meth c H locs 0 0 (MQ below (mh_Qi D ks L s.heap.size r h') args s 0 0 (mh_A L s.heap.size)) (F0 m 20 ls []) := by
  intro o0 x1 x2 h H locs ls wd hl hX
  have hx := cx.1.1
  have hb := cx.1.2.1
  unfold f_X12_lastGap_b20 at hX
  obtain ⟨v1, ev1, hX⟩ := mh_nmx hX
  refine lv_iinc (k := 2) (v := v1) (lv' := [(2, .int v1), (0, .ref o0), (1, .int x1)]) hx hb dX12_lastGap_20 hl rfl ev1 (Nat.le_of_ble_eq_true rfl) rfl (fun ls hl => ?_)
  refine lv_goto (tgt := 4) hx hb dX12_lastGap_23 rfl ?_
  exact hk4 _ _ _ h _ _ ls wd (lv_sub hl [1, 2, 0] rfl) hX
set_option maxRecDepth 100000 in
set_option maxHeartbeats 4000000 in
theorem w_X12_lastGap_b26 {p : Program} {l : Launch} {e : Env} {s : State} {m : MethodId} {args : Array Value} {below : List Frame} {meth : Method} {c : Code} {D : va_G} {ks : Nat → ClassId} {L : List Nat} {r : Int32} {h' : mh_H} (cx : mh_C p m c cX12_lastGap 3 s args RX12 meth D ks (mh_A L s.heap.size)) (hr : meth.sig.returnType = (some .int)) :
    ∀ (x1 : Int32) (h : mh_H) (H : Heap) (locs : List Loc) (ls : Array Slot), mh_W D ks L (mh_A L s.heap.size) s.heap h H locs → lv_has ls 3 [(1, .int x1)] → f_X12_lastGap_b26 x1 h = some (r, h') → W p l e (mh_rm 1) s m args below meth c H locs 0 0 (MQ below (mh_Qi D ks L s.heap.size r h') args s 0 0 (mh_A L s.heap.size)) (F0 m 26 ls []) := by
  intro x1 h H locs ls wd hl hX
  have hx := cx.1.1
  have hb := cx.1.2.1
  unfold f_X12_lastGap_b26 at hX
  refine lv_iload_n hx hb dX12_lastGap_26 rfl (lv_at hl 0 rfl) ?_
  exact mh_iret cx wd hr hX dX12_lastGap_27
set_option maxRecDepth 100000 in
set_option maxHeartbeats 4000000 in
theorem w_X12_lastGap_b4 {p : Program} {l : Launch} {e : Env} {s : State} {m : MethodId} {args : Array Value} {below : List Frame} {meth : Method} {c : Code} {D : va_G} {ks : Nat → ClassId} {L : List Nat} {r : Int32} {h' : mh_H} (cx : mh_C p m c cX12_lastGap 3 s args RX12 meth D ks (mh_A L s.heap.size)) (hr : meth.sig.returnType = (some .int)) :
    ∀ n : Nat, ∀ (o0 : Nat) (x1 : Int32) (x2 : Int32) (h : mh_H) (H : Heap) (locs : List Loc) (ls : Array Slot), mh_W D ks L (mh_A L s.heap.size) s.heap h H locs → lv_has ls 3 [(0, .ref o0), (1, .int x1), (2, .int x2)] → f_X12_lastGap_b4 n o0 x1 x2 h = some (r, h') → W p l e (mh_rm 1) s m args below meth c H locs 0 0 (MQ below (mh_Qi D ks L s.heap.size r h') args s 0 0 (mh_A L s.heap.size)) (F0 m 4 ls []) := by
  intro n
  induction n with
  | zero =>
    intro o0 x1 x2 h H locs ls wd hl hX
    cases hX
  | succ n ih =>
    intro o0 x1 x2 h H locs ls wd hl hX
    have hx := cx.1.1
    have hb := cx.1.2.1
    rw [f_X12_lastGap_b4] at hX
    refine lv_iload_n hx hb dX12_lastGap_4 rfl (lv_at hl 2 rfl) ?_
    refine mh_ldc cx kc_X12_125 dX12_lastGap_5 ?_
    refine lv_icmp_gt (tgt := 26) hx hb dX12_lastGap_7 rfl (fun hc => (fun hX => ?_) ((mh_if hX).1 hc)) (fun hc => (fun hX => ?_) ((mh_if hX).2 hc))
    · exact w_X12_lastGap_b26 cx hr _ h _ _ ls wd (lv_sub hl [1] rfl) hX
    · refine lv_aload_n hx hb dX12_lastGap_10 rfl (lv_at hl 0 rfl) ?_
      refine lv_iload_n hx hb dX12_lastGap_11 rfl (lv_at hl 2 rfl) ?_
      refine mh_callVI cx wd [.int x2] (rfl : vwCl[12]? = some (RX12, TX12, 38)) yw_X12_isPaid vw_X12_171 rfl hl.1 rfl (Nat.le_of_ble_eq_true rfl) dX12_lastGap_12 ⟨Nat.le_of_ble_eq_true rfl, Nat.le_of_ble_eq_true rfl⟩ ⟨Nat.le_refl _, Nat.le_refl _⟩ (fun _ _ q => c_X12_isPaid q) hX (fun v3 h2 H locs wd hX => ?_)
      refine lv_if_ne (tgt := 20) hx hb dX12_lastGap_15 rfl (fun hc => (fun hX => ?_) ((mh_if hX).2 hc)) (fun hc => (fun hX => ?_) ((mh_if hX).1 hc))
      · exact w_X12_lastGap_b20 (f_X12_lastGap_b4 n) cx hr ih _ _ _ h2 _ _ ls wd (lv_sub hl [0, 1, 2] rfl) hX
      · refine lv_iload_n hx hb dX12_lastGap_18 rfl (lv_at hl 2 rfl) ?_
        refine lv_istore_n (lv' := [(1, .int x2), (0, .ref o0), (2, .int x2)]) hx hb dX12_lastGap_19 rfl hl (Nat.le_of_ble_eq_true rfl) rfl (fun ls hl => ?_)
        exact w_X12_lastGap_b20 (f_X12_lastGap_b4 n) cx hr ih _ _ _ h2 _ _ ls wd (lv_sub hl [1, 0, 2] rfl) hX
set_option maxRecDepth 100000 in
set_option maxHeartbeats 4000000 in
theorem w_X12_lastGap_e {p : Program} {l : Launch} {e : Env} {s : State} {m : MethodId} {args : Array Value} {below : List Frame} {meth : Method} {c : Code} {D : va_G} {ks : Nat → ClassId} {L : List Nat} {r : Int32} {h' : mh_H} (cx : mh_C p m c cX12_lastGap 3 s args RX12 meth D ks (mh_A L s.heap.size)) (hr : meth.sig.returnType = (some .int)) :
    ∀ (o0 : Nat) (h : mh_H) (H : Heap) (locs : List Loc) (ls : Array Slot), mh_W D ks L (mh_A L s.heap.size) s.heap h H locs → lv_has ls 3 [(0, .ref o0)] → f_X12_lastGap_e o0 h = some (r, h') → W p l e (mh_rm 1) s m args below meth c H locs 0 0 (MQ below (mh_Qi D ks L s.heap.size r h') args s 0 0 (mh_A L s.heap.size)) (F0 m 0 ls []) := by
  intro o0 h H locs ls wd hl hX
  have hx := cx.1.1
  have hb := cx.1.2.1
  unfold f_X12_lastGap_e at hX
  refine lv_iconst (v := (-1)) hx hb dX12_lastGap_0 (by decide) ?_
  refine mh_topi hX (fun v4 hX => ?_)
  refine lv_istore_n (lv' := [(1, .int v4), (0, .ref o0)]) hx hb dX12_lastGap_1 rfl hl (Nat.le_of_ble_eq_true rfl) rfl (fun ls hl => ?_)
  refine lv_iconst (v := 1) hx hb dX12_lastGap_2 (by decide) ?_
  refine mh_topi hX (fun v5 hX => ?_)
  refine lv_istore_n (lv' := [(2, .int v5), (1, .int v4), (0, .ref o0)]) hx hb dX12_lastGap_3 rfl hl (Nat.le_of_ble_eq_true rfl) rfl (fun ls hl => ?_)
  exact w_X12_lastGap_b4 cx hr mh_fu _ _ _ h _ _ ls wd (lv_sub hl [2, 1, 0] rfl) hX
set_option maxRecDepth 100000 in
theorem c_X12_lastGap {l : Launch} {L : List Nat} {h h' : mh_H} {r : Int32} {o0 : Nat} (hX : f_X12_lastGap_e o0 h = some (r, h')) : mh_MI l yX12_lastGap (Cond.code yX12_lastGap cX12_lastGap 3 (some .int) :: mh_TB) (mh_rm 1) [.ref o0] L h r h' :=
  mh_of (mc := 0) (ms := 0) (Qc := fun D ks sz => mh_Qi D ks L sz r h') (plainFor_of_name (by decide)) (Nat.le_of_ble_eq_true rfl) (fun p e s m below meth c D ks ls hr cx wd hl => by
    have hl : lv_has ls 3 [(0, .ref o0)] := hl
    exact w_X12_lastGap_e cx hr o0 h _ _ ls wd hl hX)
def f_X12_many_b44 (t0 : Int64) (h : mh_H) : Option (Int64 × mh_H) :=
  some (t0, h)
def f_X12_many_e (o0 : Nat) (x1 : Int32) (h : mh_H) : Option (Int64 × mh_H) :=
  (mh_pI h o0 12 0 (0 : Int32)).bind fun h1 =>
  mh_b2 (f_X12_isMint_e x1 h1) fun v3 h2 =>
  if v3 = 0 then (
  mh_b2 (mh_cal h2 o0 12 (f_X12_fail_e o0 (1 : Int32) h2)) fun v10 h9 =>
  some ((v10).toInt64, h9)) else
  (mh_cal h2 o0 12 (f_X12_table_e o0 x1 h2)).bind fun h4 =>
  mh_b2 (mh_cal h4 o0 12 (f_X12_divisorOf_e o0 x1 h4)) fun v6 h5 =>
  if v6 = (1 : Int32) then (
  mh_b2 (mh_cal h5 o0 12 (f_X12_gaps_e o0 h5)) fun v8 h7 =>
  f_X12_many_b44 ((v8).toInt64) h7) else
  f_X12_many_b44 (-1 : Int64) h5
set_option maxRecDepth 100000 in
set_option maxHeartbeats 4000000 in
theorem w_X12_many_b44 {p : Program} {l : Launch} {e : Env} {s : State} {m : MethodId} {args : Array Value} {below : List Frame} {meth : Method} {c : Code} {D : va_G} {ks : Nat → ClassId} {L : List Nat} {r : Int64} {h' : mh_H} (cx : mh_C p m c cX12_many 2 s args RX12 meth D ks (mh_A L s.heap.size)) (hr : meth.sig.returnType = (some .long)) :
    ∀ (t0 : Int64) (h : mh_H) (H : Heap) (locs : List Loc) (ls : Array Slot), mh_W D ks L (mh_A L s.heap.size) s.heap h H locs → lv_has ls 2 [] → f_X12_many_b44 t0 h = some (r, h') → W p l e (mh_rm 2) s m args below meth c H locs 0 0 (MQ below (mh_Ql D ks L s.heap.size r h') args s 0 0 (mh_A L s.heap.size)) (F0 m 44 ls [.long t0]) := by
  intro t0 h H locs ls wd hl hX
  have hx := cx.1.1
  have hb := cx.1.2.1
  unfold f_X12_many_b44 at hX
  exact mh_lret cx wd hr hX dX12_many_44
set_option maxRecDepth 100000 in
set_option maxHeartbeats 4000000 in
theorem w_X12_many_e {p : Program} {l : Launch} {e : Env} {s : State} {m : MethodId} {args : Array Value} {below : List Frame} {meth : Method} {c : Code} {D : va_G} {ks : Nat → ClassId} {L : List Nat} {r : Int64} {h' : mh_H} (cx : mh_C p m c cX12_many 2 s args RX12 meth D ks (mh_A L s.heap.size)) (hr : meth.sig.returnType = (some .long)) :
    ∀ (o0 : Nat) (x1 : Int32) (h : mh_H) (H : Heap) (locs : List Loc) (ls : Array Slot), mh_W D ks L (mh_A L s.heap.size) s.heap h H locs → lv_has ls 2 [(0, .ref o0), (1, .int x1)] → f_X12_many_e o0 x1 h = some (r, h') → W p l e (mh_rm 2) s m args below meth c H locs 0 0 (MQ below (mh_Ql D ks L s.heap.size r h') args s 0 0 (mh_A L s.heap.size)) (F0 m 0 ls []) := by
  intro o0 x1 h H locs ls wd hl hX
  have hx := cx.1.1
  have hb := cx.1.2.1
  unfold f_X12_many_e at hX
  refine lv_aload_n hx hb dX12_many_0 rfl (lv_at hl 0 rfl) ?_
  refine lv_iconst (v := 0) hx hb dX12_many_1 (by decide) ?_
  refine mh_putI cx wd fp_X12_96 dX12_many_2 hX (fun h1 H locs wd hX => ?_)
  refine lv_iload_n hx hb dX12_many_5 rfl (lv_at hl 1 rfl) ?_
  refine mh_callSI cx wd [.int x1] yw_X12_isMint sw_X12_111 rfl hl.1 rfl (Nat.le_of_ble_eq_true rfl) dX12_many_6 ⟨Nat.le_of_ble_eq_true rfl, Nat.le_of_ble_eq_true rfl⟩ ⟨Nat.le_refl _, Nat.le_refl _⟩ (fun _ _ q => c_X12_isMint q) hX (fun v3 h2 H locs wd hX => ?_)
  refine lv_if_ne (tgt := 19) hx hb dX12_many_9 rfl (fun hc => (fun hX => ?_) ((mh_if hX).2 hc)) (fun hc => (fun hX => ?_) ((mh_if hX).1 hc))
  · refine lv_aload_n hx hb dX12_many_19 rfl (lv_at hl 0 rfl) ?_
    refine lv_iload_n hx hb dX12_many_20 rfl (lv_at hl 1 rfl) ?_
    refine mh_callVV cx wd [.int x1] (rfl : vwCl[12]? = some (RX12, TX12, 38)) yw_X12_table vw_X12_145 rfl hl.1 rfl (Nat.le_of_ble_eq_true rfl) dX12_many_21 ⟨Nat.le_of_ble_eq_true rfl, Nat.le_of_ble_eq_true rfl⟩ ⟨Nat.le_refl _, Nat.le_refl _⟩ (fun _ q => c_X12_table q) hX (fun h4 H locs wd hX => ?_)
    refine lv_aload_n hx hb dX12_many_24 rfl (lv_at hl 0 rfl) ?_
    refine lv_iload_n hx hb dX12_many_25 rfl (lv_at hl 1 rfl) ?_
    refine mh_callVI cx wd [.int x1] (rfl : vwCl[12]? = some (RX12, TX12, 38)) yw_X12_divisorOf vw_X12_168 rfl hl.1 rfl (Nat.le_of_ble_eq_true rfl) dX12_many_26 ⟨Nat.le_of_ble_eq_true rfl, Nat.le_of_ble_eq_true rfl⟩ ⟨Nat.le_refl _, Nat.le_refl _⟩ (fun _ _ q => c_X12_divisorOf q) hX (fun v6 h5 H locs wd hX => ?_)
    refine lv_iconst (v := 1) hx hb dX12_many_29 (by decide) ?_
    refine lv_icmp_ne (tgt := 41) hx hb dX12_many_30 rfl (fun hc => (fun hX => ?_) ((mh_if hX).2 hc)) (fun hc => (fun hX => ?_) ((mh_if hX).1 hc))
    · refine mh_ldc2 cx kl_X12_135 dX12_many_41 ?_
      exact w_X12_many_b44 cx hr _ h5 _ _ ls wd (lv_sub hl [] rfl) hX
    · refine lv_aload_n hx hb dX12_many_33 rfl (lv_at hl 0 rfl) ?_
      refine mh_callVI cx wd [] (rfl : vwCl[12]? = some (RX12, TX12, 38)) yw_X12_gaps vw_X12_174 rfl hl.1 rfl (Nat.le_of_ble_eq_true rfl) dX12_many_34 ⟨Nat.le_of_ble_eq_true rfl, Nat.le_of_ble_eq_true rfl⟩ ⟨Nat.le_refl _, Nat.le_refl _⟩ (fun _ _ q => c_X12_gaps q) hX (fun v8 h7 H locs wd hX => ?_)
      refine lv_i2l hx hb dX12_many_37 rfl ?_
      refine lv_goto (tgt := 44) hx hb dX12_many_38 rfl ?_
      exact w_X12_many_b44 cx hr _ h7 _ _ ls wd (lv_sub hl [] rfl) hX
  · refine lv_aload_n hx hb dX12_many_12 rfl (lv_at hl 0 rfl) ?_
    refine lv_iconst (v := 1) hx hb dX12_many_13 (by decide) ?_
    refine mh_callVI cx wd [.int (1 : Int32)] (rfl : vwCl[12]? = some (RX12, TX12, 38)) yw_X12_fail vw_X12_122 rfl hl.1 rfl (Nat.le_of_ble_eq_true rfl) dX12_many_14 ⟨Nat.le_of_ble_eq_true rfl, Nat.le_of_ble_eq_true rfl⟩ ⟨Nat.le_refl _, Nat.le_refl _⟩ (fun _ _ q => c_X12_fail q) hX (fun v10 h9 H locs wd hX => ?_)
    refine lv_i2l hx hb dX12_many_17 rfl ?_
    exact mh_lret cx wd hr hX dX12_many_18
set_option maxRecDepth 100000 in
theorem c_X12_many {l : Launch} {L : List Nat} {h h' : mh_H} {r : Int64} {o0 : Nat} {x1 : Int32} (hX : f_X12_many_e o0 x1 h = some (r, h')) : mh_MJ l yX12_many (Cond.code yX12_many cX12_many 2 (some .long) :: mh_TB) (mh_rm 2) [.ref o0, .int x1] L h r h' :=
  mh_of (mc := 0) (ms := 0) (Qc := fun D ks sz => mh_Ql D ks L sz r h') (plainFor_of_name (by decide)) (Nat.le_of_ble_eq_true rfl) (fun p e s m below meth c D ks ls hr cx wd hl => by
    have hl : lv_has ls 2 [(0, .ref o0), (1, .int x1)] := hl
    exact w_X12_many_e cx hr o0 x1 h _ _ ls wd hl hX)
def f_X12_last_b41 (t0 : Int32) (h : mh_H) : Option (Int32 × mh_H) :=
  some (t0, h)
def f_X12_last_e (o0 : Nat) (x1 : Int32) (h : mh_H) : Option (Int32 × mh_H) :=
  (mh_pI h o0 12 0 (0 : Int32)).bind fun h1 =>
  mh_b2 (f_X12_isMint_e x1 h1) fun v3 h2 =>
  if v3 = 0 then (
  mh_b2 (mh_cal h2 o0 12 (f_X12_fail_e o0 (1 : Int32) h2)) fun v10 h9 =>
  some (v10, h9)) else
  (mh_cal h2 o0 12 (f_X12_table_e o0 x1 h2)).bind fun h4 =>
  mh_b2 (mh_cal h4 o0 12 (f_X12_divisorOf_e o0 x1 h4)) fun v6 h5 =>
  if v6 = (1 : Int32) then (
  mh_b2 (mh_cal h5 o0 12 (f_X12_lastGap_e o0 h5)) fun v8 h7 =>
  f_X12_last_b41 v8 h7) else
  f_X12_last_b41 (-2 : Int32) h5
set_option maxRecDepth 100000 in
set_option maxHeartbeats 4000000 in
theorem w_X12_last_b41 {p : Program} {l : Launch} {e : Env} {s : State} {m : MethodId} {args : Array Value} {below : List Frame} {meth : Method} {c : Code} {D : va_G} {ks : Nat → ClassId} {L : List Nat} {r : Int32} {h' : mh_H} (cx : mh_C p m c cX12_last 2 s args RX12 meth D ks (mh_A L s.heap.size)) (hr : meth.sig.returnType = (some .int)) :
    ∀ (t0 : Int32) (h : mh_H) (H : Heap) (locs : List Loc) (ls : Array Slot), mh_W D ks L (mh_A L s.heap.size) s.heap h H locs → lv_has ls 2 [] → f_X12_last_b41 t0 h = some (r, h') → W p l e (mh_rm 2) s m args below meth c H locs 0 0 (MQ below (mh_Qi D ks L s.heap.size r h') args s 0 0 (mh_A L s.heap.size)) (F0 m 41 ls [.int t0]) := by
  intro t0 h H locs ls wd hl hX
  have hx := cx.1.1
  have hb := cx.1.2.1
  unfold f_X12_last_b41 at hX
  exact mh_iret cx wd hr hX dX12_last_41
set_option maxRecDepth 100000 in
set_option maxHeartbeats 4000000 in
theorem w_X12_last_e {p : Program} {l : Launch} {e : Env} {s : State} {m : MethodId} {args : Array Value} {below : List Frame} {meth : Method} {c : Code} {D : va_G} {ks : Nat → ClassId} {L : List Nat} {r : Int32} {h' : mh_H} (cx : mh_C p m c cX12_last 2 s args RX12 meth D ks (mh_A L s.heap.size)) (hr : meth.sig.returnType = (some .int)) :
    ∀ (o0 : Nat) (x1 : Int32) (h : mh_H) (H : Heap) (locs : List Loc) (ls : Array Slot), mh_W D ks L (mh_A L s.heap.size) s.heap h H locs → lv_has ls 2 [(0, .ref o0), (1, .int x1)] → f_X12_last_e o0 x1 h = some (r, h') → W p l e (mh_rm 2) s m args below meth c H locs 0 0 (MQ below (mh_Qi D ks L s.heap.size r h') args s 0 0 (mh_A L s.heap.size)) (F0 m 0 ls []) := by
  intro o0 x1 h H locs ls wd hl hX
  have hx := cx.1.1
  have hb := cx.1.2.1
  unfold f_X12_last_e at hX
  refine lv_aload_n hx hb dX12_last_0 rfl (lv_at hl 0 rfl) ?_
  refine lv_iconst (v := 0) hx hb dX12_last_1 (by decide) ?_
  refine mh_putI cx wd fp_X12_96 dX12_last_2 hX (fun h1 H locs wd hX => ?_)
  refine lv_iload_n hx hb dX12_last_5 rfl (lv_at hl 1 rfl) ?_
  refine mh_callSI cx wd [.int x1] yw_X12_isMint sw_X12_111 rfl hl.1 rfl (Nat.le_of_ble_eq_true rfl) dX12_last_6 ⟨Nat.le_of_ble_eq_true rfl, Nat.le_of_ble_eq_true rfl⟩ ⟨Nat.le_refl _, Nat.le_refl _⟩ (fun _ _ q => c_X12_isMint q) hX (fun v3 h2 H locs wd hX => ?_)
  refine lv_if_ne (tgt := 18) hx hb dX12_last_9 rfl (fun hc => (fun hX => ?_) ((mh_if hX).2 hc)) (fun hc => (fun hX => ?_) ((mh_if hX).1 hc))
  · refine lv_aload_n hx hb dX12_last_18 rfl (lv_at hl 0 rfl) ?_
    refine lv_iload_n hx hb dX12_last_19 rfl (lv_at hl 1 rfl) ?_
    refine mh_callVV cx wd [.int x1] (rfl : vwCl[12]? = some (RX12, TX12, 38)) yw_X12_table vw_X12_145 rfl hl.1 rfl (Nat.le_of_ble_eq_true rfl) dX12_last_20 ⟨Nat.le_of_ble_eq_true rfl, Nat.le_of_ble_eq_true rfl⟩ ⟨Nat.le_refl _, Nat.le_refl _⟩ (fun _ q => c_X12_table q) hX (fun h4 H locs wd hX => ?_)
    refine lv_aload_n hx hb dX12_last_23 rfl (lv_at hl 0 rfl) ?_
    refine lv_iload_n hx hb dX12_last_24 rfl (lv_at hl 1 rfl) ?_
    refine mh_callVI cx wd [.int x1] (rfl : vwCl[12]? = some (RX12, TX12, 38)) yw_X12_divisorOf vw_X12_168 rfl hl.1 rfl (Nat.le_of_ble_eq_true rfl) dX12_last_25 ⟨Nat.le_of_ble_eq_true rfl, Nat.le_of_ble_eq_true rfl⟩ ⟨Nat.le_refl _, Nat.le_refl _⟩ (fun _ _ q => c_X12_divisorOf q) hX (fun v6 h5 H locs wd hX => ?_)
    refine lv_iconst (v := 1) hx hb dX12_last_28 (by decide) ?_
    refine lv_icmp_ne (tgt := 39) hx hb dX12_last_29 rfl (fun hc => (fun hX => ?_) ((mh_if hX).2 hc)) (fun hc => (fun hX => ?_) ((mh_if hX).1 hc))
    · refine lv_bipush (v := (-2)) hx hb dX12_last_39 (by decide) ?_
      exact w_X12_last_b41 cx hr _ h5 _ _ ls wd (lv_sub hl [] rfl) hX
    · refine lv_aload_n hx hb dX12_last_32 rfl (lv_at hl 0 rfl) ?_
      refine mh_callVI cx wd [] (rfl : vwCl[12]? = some (RX12, TX12, 38)) yw_X12_lastGap vw_X12_177 rfl hl.1 rfl (Nat.le_of_ble_eq_true rfl) dX12_last_33 ⟨Nat.le_of_ble_eq_true rfl, Nat.le_of_ble_eq_true rfl⟩ ⟨Nat.le_refl _, Nat.le_refl _⟩ (fun _ _ q => c_X12_lastGap q) hX (fun v8 h7 H locs wd hX => ?_)
      refine lv_goto (tgt := 41) hx hb dX12_last_36 rfl ?_
      exact w_X12_last_b41 cx hr _ h7 _ _ ls wd (lv_sub hl [] rfl) hX
  · refine lv_aload_n hx hb dX12_last_12 rfl (lv_at hl 0 rfl) ?_
    refine lv_iconst (v := 1) hx hb dX12_last_13 (by decide) ?_
    refine mh_callVI cx wd [.int (1 : Int32)] (rfl : vwCl[12]? = some (RX12, TX12, 38)) yw_X12_fail vw_X12_122 rfl hl.1 rfl (Nat.le_of_ble_eq_true rfl) dX12_last_14 ⟨Nat.le_of_ble_eq_true rfl, Nat.le_of_ble_eq_true rfl⟩ ⟨Nat.le_refl _, Nat.le_refl _⟩ (fun _ _ q => c_X12_fail q) hX (fun v10 h9 H locs wd hX => ?_)
    exact mh_iret cx wd hr hX dX12_last_17
set_option maxRecDepth 100000 in
theorem c_X12_last {l : Launch} {L : List Nat} {h h' : mh_H} {r : Int32} {o0 : Nat} {x1 : Int32} (hX : f_X12_last_e o0 x1 h = some (r, h')) : mh_MI l yX12_last (Cond.code yX12_last cX12_last 2 (some .int) :: mh_TB) (mh_rm 2) [.ref o0, .int x1] L h r h' :=
  mh_of (mc := 0) (ms := 0) (Qc := fun D ks sz => mh_Qi D ks L sz r h') (plainFor_of_name (by decide)) (Nat.le_of_ble_eq_true rfl) (fun p e s m below meth c D ks ls hr cx wd hl => by
    have hl : lv_has ls 2 [(0, .ref o0), (1, .int x1)] := hl
    exact w_X12_last_e cx hr o0 x1 h _ _ ls wd hl hX)
def f_X12_gap_b28 (o0 : Nat) (h : mh_H) : Option (Int32 × mh_H) :=
  mh_b2 (mh_cal h o0 12 (f_X12_fail_e o0 (2 : Int32) h)) fun v2 h1 =>
  some (v2, h1)
def f_X12_gap_b68 (x4 : Int32) (h : mh_H) : Option (Int32 × mh_H) :=
  some (x4, h)
def f_X12_gap_b74 (k44 : Nat → Int32 → Int32 → Int32 → Int32 → mh_H → Option (Int32 × mh_H)) (o0 : Nat) (x1 : Int32) (x2 : Int32) (x3 : Int32) (x4 : Int32) (h : mh_H) : Option (Int32 × mh_H) :=
  mh_nm (x4 + Int32.ofInt (1)) fun v3 =>
  k44 o0 x1 x2 x3 v3 h
def f_X12_gap_b120 (k99 : Int32 → Int32 → Int32 → Int32 → mh_H → Option (Int32 × mh_H)) (x2 : Int32) (x3 : Int32) (x4 : Int32) (x5 : Int32) (h : mh_H) : Option (Int32 × mh_H) :=
  mh_nm (x3 + Int32.ofInt (1)) fun v4 =>
  k99 x2 v4 x4 x5 h
def f_X12_gap_b126 (x5 : Int32) (h : mh_H) : Option (Int32 × mh_H) :=
  some (x5, h)
def f_X12_gap_b99 : Nat → Int32 → Int32 → Int32 → Int32 → mh_H → Option (Int32 × mh_H)
  | 0, _, _, _, _, _ => none
  | n + 1, x2, x3, x4, x5, h =>
    if x2 < x3 then (
    f_X12_gap_b126 x5 h) else
    mh_nm (x5 + Int32.ofInt (1)) fun v5 =>
    if x4 = 0 then (
    f_X12_gap_b120 (f_X12_gap_b99 n) x2 x3 x4 v5 h) else
    mh_nz (x4 = 0) <|
    if (mh_irem v5 x4) = 0 then (
    f_X12_gap_b99 n x2 x3 x4 v5 h) else
    f_X12_gap_b120 (f_X12_gap_b99 n) x2 x3 x4 v5 h
def f_X12_gap_b80 (o0 : Nat) (x1 : Int32) (x2 : Int32) (x3 : Int32) (h : mh_H) : Option (Int32 × mh_H) :=
  mh_b2 (mh_cal h o0 12 (f_X12_divisorOf_e o0 x1 h)) fun v7 h6 =>
  if v7 = (1 : Int32) then (
  some ((-1 : Int32), h6)) else
  mh_nm (100300 : Int32) fun v8 =>
  f_X12_gap_b99 mh_fu x2 x3 v7 v8 h6
def f_X12_gap_b44 : Nat → Nat → Int32 → Int32 → Int32 → Int32 → mh_H → Option (Int32 × mh_H)
  | 0, _, _, _, _, _, _ => none
  | n + 1, o0, x1, x2, x3, x4, h =>
    if (100300 : Int32) < x4 then (
    f_X12_gap_b80 o0 x1 x2 x3 h) else
    mh_b2 (mh_cal h o0 12 (f_X12_isPaid_e o0 x4 h)) fun v10 h9 =>
    if v10 = 0 then (
    if x3 = x2 then (
    f_X12_gap_b68 x4 h9) else
    mh_nm (x3 + Int32.ofInt (1)) fun v11 =>
    f_X12_gap_b74 (f_X12_gap_b44 n) o0 x1 x2 v11 x4 h9) else
    f_X12_gap_b74 (f_X12_gap_b44 n) o0 x1 x2 x3 x4 h9
def f_X12_gap_e (o0 : Nat) (x1 : Int32) (x2 : Int32) (h : mh_H) : Option (Int32 × mh_H) :=
  (mh_pI h o0 12 0 (0 : Int32)).bind fun h12 =>
  mh_b2 (f_X12_isMint_e x1 h12) fun v14 h13 =>
  if v14 = 0 then (
  mh_b2 (mh_cal h13 o0 12 (f_X12_fail_e o0 (1 : Int32) h13)) fun v19 h18 =>
  some (v19, h18)) else
  if x2 < 0 then (
  f_X12_gap_b28 o0 h13) else
  if x2 ≤ (1000000 : Int32) then (
  (mh_cal h13 o0 12 (f_X12_table_e o0 x1 h13)).bind fun h15 =>
  mh_nm (0 : Int32) fun v16 =>
  mh_nm (1 : Int32) fun v17 =>
  f_X12_gap_b44 mh_fu o0 x1 x2 v16 v17 h15) else
  f_X12_gap_b28 o0 h13
set_option maxRecDepth 100000 in
set_option maxHeartbeats 4000000 in
theorem w_X12_gap_b28 {p : Program} {l : Launch} {e : Env} {s : State} {m : MethodId} {args : Array Value} {below : List Frame} {meth : Method} {c : Code} {D : va_G} {ks : Nat → ClassId} {L : List Nat} {r : Int32} {h' : mh_H} (cx : mh_C p m c cX12_gap 6 s args RX12 meth D ks (mh_A L s.heap.size)) (hr : meth.sig.returnType = (some .int)) :
    ∀ (o0 : Nat) (h : mh_H) (H : Heap) (locs : List Loc) (ls : Array Slot), mh_W D ks L (mh_A L s.heap.size) s.heap h H locs → lv_has ls 6 [(0, .ref o0)] → f_X12_gap_b28 o0 h = some (r, h') → W p l e (mh_rm 2) s m args below meth c H locs 0 0 (MQ below (mh_Qi D ks L s.heap.size r h') args s 0 0 (mh_A L s.heap.size)) (F0 m 28 ls []) := by
  intro o0 h H locs ls wd hl hX
  have hx := cx.1.1
  have hb := cx.1.2.1
  unfold f_X12_gap_b28 at hX
  refine lv_aload_n hx hb dX12_gap_28 rfl (lv_at hl 0 rfl) ?_
  refine lv_iconst (v := 2) hx hb dX12_gap_29 (by decide) ?_
  refine mh_callVI cx wd [.int (2 : Int32)] (rfl : vwCl[12]? = some (RX12, TX12, 38)) yw_X12_fail vw_X12_122 rfl hl.1 rfl (Nat.le_of_ble_eq_true rfl) dX12_gap_30 ⟨Nat.le_of_ble_eq_true rfl, Nat.le_of_ble_eq_true rfl⟩ ⟨Nat.le_refl _, Nat.le_refl _⟩ (fun _ _ q => c_X12_fail q) hX (fun v2 h1 H locs wd hX => ?_)
  exact mh_iret cx wd hr hX dX12_gap_33
set_option maxRecDepth 100000 in
set_option maxHeartbeats 4000000 in
theorem w_X12_gap_b68 {p : Program} {l : Launch} {e : Env} {s : State} {m : MethodId} {args : Array Value} {below : List Frame} {meth : Method} {c : Code} {D : va_G} {ks : Nat → ClassId} {L : List Nat} {r : Int32} {h' : mh_H} (cx : mh_C p m c cX12_gap 6 s args RX12 meth D ks (mh_A L s.heap.size)) (hr : meth.sig.returnType = (some .int)) :
    ∀ (x4 : Int32) (h : mh_H) (H : Heap) (locs : List Loc) (ls : Array Slot), mh_W D ks L (mh_A L s.heap.size) s.heap h H locs → lv_has ls 6 [(4, .int x4)] → f_X12_gap_b68 x4 h = some (r, h') → W p l e (mh_rm 2) s m args below meth c H locs 0 0 (MQ below (mh_Qi D ks L s.heap.size r h') args s 0 0 (mh_A L s.heap.size)) (F0 m 68 ls []) := by
  intro x4 h H locs ls wd hl hX
  have hx := cx.1.1
  have hb := cx.1.2.1
  unfold f_X12_gap_b68 at hX
  refine lv_iload hx hb dX12_gap_68 (lv_at hl 0 rfl) ?_
  exact mh_iret cx wd hr hX dX12_gap_70
set_option maxRecDepth 100000 in
set_option maxHeartbeats 4000000 in
theorem w_X12_gap_b74 {p : Program} {l : Launch} {e : Env} {s : State} {m : MethodId} {args : Array Value} {below : List Frame} {meth : Method} {c : Code} {D : va_G} {ks : Nat → ClassId} {L : List Nat} {r : Int32} {h' : mh_H} (k44 : Nat → Int32 → Int32 → Int32 → Int32 → mh_H → Option (Int32 × mh_H)) (cx : mh_C p m c cX12_gap 6 s args RX12 meth D ks (mh_A L s.heap.size)) (hr : meth.sig.returnType = (some .int))
    (hk44 : ∀ (o0 : Nat) (x1 : Int32) (x2 : Int32) (x3 : Int32) (x4 : Int32) (h : mh_H) (H : Heap) (locs : List Loc) (ls : Array Slot), mh_W D ks L (mh_A L s.heap.size) s.heap h H locs → lv_has ls 6 [(0, .ref o0), (1, .int x1), (2, .int x2), (3, .int x3), (4, .int x4)] → k44 o0 x1 x2 x3 x4 h = some (r, h') → W p l e (mh_rm 2) s m args below meth c H locs 0 0 (MQ below (mh_Qi D ks L s.heap.size r h') args s 0 0 (mh_A L s.heap.size)) (F0 m 44 ls [])) :
    ∀ (o0 : Nat) (x1 : Int32) (x2 : Int32) (x3 : Int32) (x4 : Int32) (h : mh_H) (H : Heap) (locs : List Loc) (ls : Array Slot), mh_W D ks L (mh_A L s.heap.size) s.heap h H locs → lv_has ls 6 [(0, .ref o0), (1, .int x1), (2, .int x2), (3, .int x3), (4, .int x4)] → f_X12_gap_b74 k44 o0 x1 x2 x3 x4 h = some (r, h') → W p l e (mh_rm 2) s m args below meth c H locs 0 0 (MQ below (mh_Qi D ks L s.heap.size r h') args s 0 0 (mh_A L s.heap.size)) (F0 m 74 ls []) := by
  intro o0 x1 x2 x3 x4 h H locs ls wd hl hX
  have hx := cx.1.1
  have hb := cx.1.2.1
  unfold f_X12_gap_b74 at hX
  obtain ⟨v3, ev3, hX⟩ := mh_nmx hX
  refine lv_iinc (k := 4) (v := v3) (lv' := [(4, .int v3), (0, .ref o0), (1, .int x1), (2, .int x2), (3, .int x3)]) hx hb dX12_gap_74 hl rfl ev3 (Nat.le_of_ble_eq_true rfl) rfl (fun ls hl => ?_)
  refine lv_goto (tgt := 44) hx hb dX12_gap_77 rfl ?_
  exact hk44 _ _ _ _ _ h _ _ ls wd (lv_sub hl [1, 2, 3, 4, 0] rfl) hX
set_option maxRecDepth 100000 in
set_option maxHeartbeats 4000000 in
theorem w_X12_gap_b120 {p : Program} {l : Launch} {e : Env} {s : State} {m : MethodId} {args : Array Value} {below : List Frame} {meth : Method} {c : Code} {D : va_G} {ks : Nat → ClassId} {L : List Nat} {r : Int32} {h' : mh_H} (k99 : Int32 → Int32 → Int32 → Int32 → mh_H → Option (Int32 × mh_H)) (cx : mh_C p m c cX12_gap 6 s args RX12 meth D ks (mh_A L s.heap.size)) (hr : meth.sig.returnType = (some .int))
    (hk99 : ∀ (x2 : Int32) (x3 : Int32) (x4 : Int32) (x5 : Int32) (h : mh_H) (H : Heap) (locs : List Loc) (ls : Array Slot), mh_W D ks L (mh_A L s.heap.size) s.heap h H locs → lv_has ls 6 [(2, .int x2), (3, .int x3), (4, .int x4), (5, .int x5)] → k99 x2 x3 x4 x5 h = some (r, h') → W p l e (mh_rm 2) s m args below meth c H locs 0 0 (MQ below (mh_Qi D ks L s.heap.size r h') args s 0 0 (mh_A L s.heap.size)) (F0 m 99 ls [])) :
    ∀ (x2 : Int32) (x3 : Int32) (x4 : Int32) (x5 : Int32) (h : mh_H) (H : Heap) (locs : List Loc) (ls : Array Slot), mh_W D ks L (mh_A L s.heap.size) s.heap h H locs → lv_has ls 6 [(2, .int x2), (3, .int x3), (4, .int x4), (5, .int x5)] → f_X12_gap_b120 k99 x2 x3 x4 x5 h = some (r, h') → W p l e (mh_rm 2) s m args below meth c H locs 0 0 (MQ below (mh_Qi D ks L s.heap.size r h') args s 0 0 (mh_A L s.heap.size)) (F0 m 120 ls []) := by
  intro x2 x3 x4 x5 h H locs ls wd hl hX
  have hx := cx.1.1
  have hb := cx.1.2.1
  unfold f_X12_gap_b120 at hX
  obtain ⟨v4, ev4, hX⟩ := mh_nmx hX
  refine lv_iinc (k := 1) (v := v4) (lv' := [(3, .int v4), (2, .int x2), (4, .int x4), (5, .int x5)]) hx hb dX12_gap_120 hl rfl ev4 (Nat.le_of_ble_eq_true rfl) rfl (fun ls hl => ?_)
  refine lv_goto (tgt := 99) hx hb dX12_gap_123 rfl ?_
  exact hk99 _ _ _ _ h _ _ ls wd (lv_sub hl [1, 0, 2, 3] rfl) hX
set_option maxRecDepth 100000 in
set_option maxHeartbeats 4000000 in
theorem w_X12_gap_b126 {p : Program} {l : Launch} {e : Env} {s : State} {m : MethodId} {args : Array Value} {below : List Frame} {meth : Method} {c : Code} {D : va_G} {ks : Nat → ClassId} {L : List Nat} {r : Int32} {h' : mh_H} (cx : mh_C p m c cX12_gap 6 s args RX12 meth D ks (mh_A L s.heap.size)) (hr : meth.sig.returnType = (some .int)) :
    ∀ (x5 : Int32) (h : mh_H) (H : Heap) (locs : List Loc) (ls : Array Slot), mh_W D ks L (mh_A L s.heap.size) s.heap h H locs → lv_has ls 6 [(5, .int x5)] → f_X12_gap_b126 x5 h = some (r, h') → W p l e (mh_rm 2) s m args below meth c H locs 0 0 (MQ below (mh_Qi D ks L s.heap.size r h') args s 0 0 (mh_A L s.heap.size)) (F0 m 126 ls []) := by
  intro x5 h H locs ls wd hl hX
  have hx := cx.1.1
  have hb := cx.1.2.1
  unfold f_X12_gap_b126 at hX
  refine lv_iload hx hb dX12_gap_126 (lv_at hl 0 rfl) ?_
  exact mh_iret cx wd hr hX dX12_gap_128
set_option maxRecDepth 100000 in
set_option maxHeartbeats 4000000 in
theorem w_X12_gap_b99 {p : Program} {l : Launch} {e : Env} {s : State} {m : MethodId} {args : Array Value} {below : List Frame} {meth : Method} {c : Code} {D : va_G} {ks : Nat → ClassId} {L : List Nat} {r : Int32} {h' : mh_H} (cx : mh_C p m c cX12_gap 6 s args RX12 meth D ks (mh_A L s.heap.size)) (hr : meth.sig.returnType = (some .int)) :
    ∀ n : Nat, ∀ (x2 : Int32) (x3 : Int32) (x4 : Int32) (x5 : Int32) (h : mh_H) (H : Heap) (locs : List Loc) (ls : Array Slot), mh_W D ks L (mh_A L s.heap.size) s.heap h H locs → lv_has ls 6 [(2, .int x2), (3, .int x3), (4, .int x4), (5, .int x5)] → f_X12_gap_b99 n x2 x3 x4 x5 h = some (r, h') → W p l e (mh_rm 2) s m args below meth c H locs 0 0 (MQ below (mh_Qi D ks L s.heap.size r h') args s 0 0 (mh_A L s.heap.size)) (F0 m 99 ls []) := by
  intro n
  induction n with
  | zero =>
    intro x2 x3 x4 x5 h H locs ls wd hl hX
    cases hX
  | succ n ih =>
    intro x2 x3 x4 x5 h H locs ls wd hl hX
    have hx := cx.1.1
    have hb := cx.1.2.1
    rw [f_X12_gap_b99] at hX
    refine lv_iload_n hx hb dX12_gap_99 rfl (lv_at hl 1 rfl) ?_
    refine lv_iload_n hx hb dX12_gap_100 rfl (lv_at hl 0 rfl) ?_
    refine lv_icmp_gt (tgt := 126) hx hb dX12_gap_101 rfl (fun hc => (fun hX => ?_) ((mh_if hX).1 hc)) (fun hc => (fun hX => ?_) ((mh_if hX).2 hc))
    · exact w_X12_gap_b126 cx hr _ h _ _ ls wd (lv_sub hl [3] rfl) hX
    · obtain ⟨v5, ev5, hX⟩ := mh_nmx hX
      refine lv_iinc (k := 3) (v := v5) (lv' := [(5, .int v5), (2, .int x2), (3, .int x3), (4, .int x4)]) hx hb dX12_gap_104 hl rfl ev5 (Nat.le_of_ble_eq_true rfl) rfl (fun ls hl => ?_)
      refine lv_iload hx hb dX12_gap_107 (lv_at hl 3 rfl) ?_
      refine lv_if_eq (tgt := 120) hx hb dX12_gap_109 rfl (fun hc => (fun hX => ?_) ((mh_if hX).1 hc)) (fun hc => (fun hX => ?_) ((mh_if hX).2 hc))
      · exact w_X12_gap_b120 (f_X12_gap_b99 n) cx hr ih _ _ _ _ h _ _ ls wd (lv_sub hl [1, 2, 3, 0] rfl) hX
      · refine lv_iload hx hb dX12_gap_112 (lv_at hl 0 rfl) ?_
        refine lv_iload hx hb dX12_gap_114 (lv_at hl 3 rfl) ?_
        obtain ⟨hz, hX⟩ := mh_nzk hX
        refine lv_irem hx hb dX12_gap_116 hz ?_
        refine lv_if_eq (tgt := 99) hx hb dX12_gap_117 rfl (fun hc => (fun hX => ?_) ((mh_if hX).1 hc)) (fun hc => (fun hX => ?_) ((mh_if hX).2 hc))
        · exact ih _ _ _ _ h _ _ ls wd (lv_sub hl [1, 2, 3, 0] rfl) hX
        · exact w_X12_gap_b120 (f_X12_gap_b99 n) cx hr ih _ _ _ _ h _ _ ls wd (lv_sub hl [1, 2, 3, 0] rfl) hX
set_option maxRecDepth 100000 in
set_option maxHeartbeats 4000000 in
theorem w_X12_gap_b80 {p : Program} {l : Launch} {e : Env} {s : State} {m : MethodId} {args : Array Value} {below : List Frame} {meth : Method} {c : Code} {D : va_G} {ks : Nat → ClassId} {L : List Nat} {r : Int32} {h' : mh_H} (cx : mh_C p m c cX12_gap 6 s args RX12 meth D ks (mh_A L s.heap.size)) (hr : meth.sig.returnType = (some .int)) :
    ∀ (o0 : Nat) (x1 : Int32) (x2 : Int32) (x3 : Int32) (h : mh_H) (H : Heap) (locs : List Loc) (ls : Array Slot), mh_W D ks L (mh_A L s.heap.size) s.heap h H locs → lv_has ls 6 [(0, .ref o0), (1, .int x1), (2, .int x2), (3, .int x3)] → f_X12_gap_b80 o0 x1 x2 x3 h = some (r, h') → W p l e (mh_rm 2) s m args below meth c H locs 0 0 (MQ below (mh_Qi D ks L s.heap.size r h') args s 0 0 (mh_A L s.heap.size)) (F0 m 80 ls []) := by
  intro o0 x1 x2 x3 h H locs ls wd hl hX
  have hx := cx.1.1
  have hb := cx.1.2.1
  unfold f_X12_gap_b80 at hX
  refine lv_aload_n hx hb dX12_gap_80 rfl (lv_at hl 0 rfl) ?_
  refine lv_iload_n hx hb dX12_gap_81 rfl (lv_at hl 1 rfl) ?_
  refine mh_callVI cx wd [.int x1] (rfl : vwCl[12]? = some (RX12, TX12, 38)) yw_X12_divisorOf vw_X12_168 rfl hl.1 rfl (Nat.le_of_ble_eq_true rfl) dX12_gap_82 ⟨Nat.le_of_ble_eq_true rfl, Nat.le_of_ble_eq_true rfl⟩ ⟨Nat.le_refl _, Nat.le_refl _⟩ (fun _ _ q => c_X12_divisorOf q) hX (fun v7 h6 H locs wd hX => ?_)
  refine lv_istore (lv' := [(4, .int v7), (0, .ref o0), (1, .int x1), (2, .int x2), (3, .int x3)]) hx hb dX12_gap_85 hl (Nat.le_of_ble_eq_true rfl) rfl (fun ls hl => ?_)
  refine lv_iload hx hb dX12_gap_87 (lv_at hl 0 rfl) ?_
  refine lv_iconst (v := 1) hx hb dX12_gap_89 (by decide) ?_
  refine lv_icmp_ne (tgt := 95) hx hb dX12_gap_90 rfl (fun hc => (fun hX => ?_) ((mh_if hX).2 hc)) (fun hc => (fun hX => ?_) ((mh_if hX).1 hc))
  · refine mh_ldc cx kc_X12_125 dX12_gap_95 ?_
    refine mh_topi hX (fun v8 hX => ?_)
    refine lv_istore (lv' := [(5, .int v8), (4, .int v7), (0, .ref o0), (1, .int x1), (2, .int x2), (3, .int x3)]) hx hb dX12_gap_97 hl (Nat.le_of_ble_eq_true rfl) rfl (fun ls hl => ?_)
    exact w_X12_gap_b99 cx hr mh_fu _ _ _ _ h6 _ _ ls wd (lv_sub hl [4, 5, 1, 0] rfl) hX
  · refine lv_iconst (v := (-1)) hx hb dX12_gap_93 (by decide) ?_
    exact mh_iret cx wd hr hX dX12_gap_94
set_option maxRecDepth 100000 in
set_option maxHeartbeats 4000000 in
theorem w_X12_gap_b44 {p : Program} {l : Launch} {e : Env} {s : State} {m : MethodId} {args : Array Value} {below : List Frame} {meth : Method} {c : Code} {D : va_G} {ks : Nat → ClassId} {L : List Nat} {r : Int32} {h' : mh_H} (cx : mh_C p m c cX12_gap 6 s args RX12 meth D ks (mh_A L s.heap.size)) (hr : meth.sig.returnType = (some .int)) :
    ∀ n : Nat, ∀ (o0 : Nat) (x1 : Int32) (x2 : Int32) (x3 : Int32) (x4 : Int32) (h : mh_H) (H : Heap) (locs : List Loc) (ls : Array Slot), mh_W D ks L (mh_A L s.heap.size) s.heap h H locs → lv_has ls 6 [(0, .ref o0), (1, .int x1), (2, .int x2), (3, .int x3), (4, .int x4)] → f_X12_gap_b44 n o0 x1 x2 x3 x4 h = some (r, h') → W p l e (mh_rm 2) s m args below meth c H locs 0 0 (MQ below (mh_Qi D ks L s.heap.size r h') args s 0 0 (mh_A L s.heap.size)) (F0 m 44 ls []) := by
  intro n
  induction n with
  | zero =>
    intro o0 x1 x2 x3 x4 h H locs ls wd hl hX
    cases hX
  | succ n ih =>
    intro o0 x1 x2 x3 x4 h H locs ls wd hl hX
    have hx := cx.1.1
    have hb := cx.1.2.1
    rw [f_X12_gap_b44] at hX
    refine lv_iload hx hb dX12_gap_44 (lv_at hl 4 rfl) ?_
    refine mh_ldc cx kc_X12_125 dX12_gap_46 ?_
    refine lv_icmp_gt (tgt := 80) hx hb dX12_gap_48 rfl (fun hc => (fun hX => ?_) ((mh_if hX).1 hc)) (fun hc => (fun hX => ?_) ((mh_if hX).2 hc))
    · exact w_X12_gap_b80 cx hr _ _ _ _ h _ _ ls wd (lv_sub hl [0, 1, 2, 3] rfl) hX
    · refine lv_aload_n hx hb dX12_gap_51 rfl (lv_at hl 0 rfl) ?_
      refine lv_iload hx hb dX12_gap_52 (lv_at hl 4 rfl) ?_
      refine mh_callVI cx wd [.int x4] (rfl : vwCl[12]? = some (RX12, TX12, 38)) yw_X12_isPaid vw_X12_171 rfl hl.1 rfl (Nat.le_of_ble_eq_true rfl) dX12_gap_54 ⟨Nat.le_of_ble_eq_true rfl, Nat.le_of_ble_eq_true rfl⟩ ⟨Nat.le_refl _, Nat.le_refl _⟩ (fun _ _ q => c_X12_isPaid q) hX (fun v10 h9 H locs wd hX => ?_)
      refine lv_if_eq (tgt := 63) hx hb dX12_gap_57 rfl (fun hc => (fun hX => ?_) ((mh_if hX).1 hc)) (fun hc => (fun hX => ?_) ((mh_if hX).2 hc))
      · refine lv_iload_n hx hb dX12_gap_63 rfl (lv_at hl 3 rfl) ?_
        refine lv_iload_n hx hb dX12_gap_64 rfl (lv_at hl 2 rfl) ?_
        refine lv_icmp_ne (tgt := 71) hx hb dX12_gap_65 rfl (fun hc => (fun hX => ?_) ((mh_if hX).2 hc)) (fun hc => (fun hX => ?_) ((mh_if hX).1 hc))
        · obtain ⟨v11, ev11, hX⟩ := mh_nmx hX
          refine lv_iinc (k := 3) (v := v11) (lv' := [(3, .int v11), (0, .ref o0), (1, .int x1), (2, .int x2), (4, .int x4)]) hx hb dX12_gap_71 hl rfl ev11 (Nat.le_of_ble_eq_true rfl) rfl (fun ls hl => ?_)
          exact w_X12_gap_b74 (f_X12_gap_b44 n) cx hr ih _ _ _ _ _ h9 _ _ ls wd (lv_sub hl [1, 2, 3, 0, 4] rfl) hX
        · exact w_X12_gap_b68 cx hr _ h9 _ _ ls wd (lv_sub hl [4] rfl) hX
      · refine lv_goto (tgt := 74) hx hb dX12_gap_60 rfl ?_
        exact w_X12_gap_b74 (f_X12_gap_b44 n) cx hr ih _ _ _ _ _ h9 _ _ ls wd (lv_sub hl [0, 1, 2, 3, 4] rfl) hX
set_option maxRecDepth 100000 in
set_option maxHeartbeats 4000000 in
theorem w_X12_gap_e {p : Program} {l : Launch} {e : Env} {s : State} {m : MethodId} {args : Array Value} {below : List Frame} {meth : Method} {c : Code} {D : va_G} {ks : Nat → ClassId} {L : List Nat} {r : Int32} {h' : mh_H} (cx : mh_C p m c cX12_gap 6 s args RX12 meth D ks (mh_A L s.heap.size)) (hr : meth.sig.returnType = (some .int)) :
    ∀ (o0 : Nat) (x1 : Int32) (x2 : Int32) (h : mh_H) (H : Heap) (locs : List Loc) (ls : Array Slot), mh_W D ks L (mh_A L s.heap.size) s.heap h H locs → lv_has ls 6 [(0, .ref o0), (1, .int x1), (2, .int x2)] → f_X12_gap_e o0 x1 x2 h = some (r, h') → W p l e (mh_rm 2) s m args below meth c H locs 0 0 (MQ below (mh_Qi D ks L s.heap.size r h') args s 0 0 (mh_A L s.heap.size)) (F0 m 0 ls []) := by
  intro o0 x1 x2 h H locs ls wd hl hX
  have hx := cx.1.1
  have hb := cx.1.2.1
  unfold f_X12_gap_e at hX
  refine lv_aload_n hx hb dX12_gap_0 rfl (lv_at hl 0 rfl) ?_
  refine lv_iconst (v := 0) hx hb dX12_gap_1 (by decide) ?_
  refine mh_putI cx wd fp_X12_96 dX12_gap_2 hX (fun h12 H locs wd hX => ?_)
  refine lv_iload_n hx hb dX12_gap_5 rfl (lv_at hl 1 rfl) ?_
  refine mh_callSI cx wd [.int x1] yw_X12_isMint sw_X12_111 rfl hl.1 rfl (Nat.le_of_ble_eq_true rfl) dX12_gap_6 ⟨Nat.le_of_ble_eq_true rfl, Nat.le_of_ble_eq_true rfl⟩ ⟨Nat.le_refl _, Nat.le_refl _⟩ (fun _ _ q => c_X12_isMint q) hX (fun v14 h13 H locs wd hX => ?_)
  refine lv_if_ne (tgt := 18) hx hb dX12_gap_9 rfl (fun hc => (fun hX => ?_) ((mh_if hX).2 hc)) (fun hc => (fun hX => ?_) ((mh_if hX).1 hc))
  · refine lv_iload_n hx hb dX12_gap_18 rfl (lv_at hl 2 rfl) ?_
    refine lv_if_lt (tgt := 28) hx hb dX12_gap_19 rfl (fun hc => (fun hX => ?_) ((mh_if hX).1 hc)) (fun hc => (fun hX => ?_) ((mh_if hX).2 hc))
    · exact w_X12_gap_b28 cx hr _ h13 _ _ ls wd (lv_sub hl [0] rfl) hX
    · refine lv_iload_n hx hb dX12_gap_22 rfl (lv_at hl 2 rfl) ?_
      refine mh_ldc cx kc_X12_180 dX12_gap_23 ?_
      refine lv_icmp_le (tgt := 34) hx hb dX12_gap_25 rfl (fun hc => (fun hX => ?_) ((mh_if hX).1 hc)) (fun hc => (fun hX => ?_) ((mh_if hX).2 hc))
      · refine lv_aload_n hx hb dX12_gap_34 rfl (lv_at hl 0 rfl) ?_
        refine lv_iload_n hx hb dX12_gap_35 rfl (lv_at hl 1 rfl) ?_
        refine mh_callVV cx wd [.int x1] (rfl : vwCl[12]? = some (RX12, TX12, 38)) yw_X12_table vw_X12_145 rfl hl.1 rfl (Nat.le_of_ble_eq_true rfl) dX12_gap_36 ⟨Nat.le_of_ble_eq_true rfl, Nat.le_of_ble_eq_true rfl⟩ ⟨Nat.le_refl _, Nat.le_refl _⟩ (fun _ q => c_X12_table q) hX (fun h15 H locs wd hX => ?_)
        refine lv_iconst (v := 0) hx hb dX12_gap_39 (by decide) ?_
        refine mh_topi hX (fun v16 hX => ?_)
        refine lv_istore_n (lv' := [(3, .int v16), (0, .ref o0), (1, .int x1), (2, .int x2)]) hx hb dX12_gap_40 rfl hl (Nat.le_of_ble_eq_true rfl) rfl (fun ls hl => ?_)
        refine lv_iconst (v := 1) hx hb dX12_gap_41 (by decide) ?_
        refine mh_topi hX (fun v17 hX => ?_)
        refine lv_istore (lv' := [(4, .int v17), (3, .int v16), (0, .ref o0), (1, .int x1), (2, .int x2)]) hx hb dX12_gap_42 hl (Nat.le_of_ble_eq_true rfl) rfl (fun ls hl => ?_)
        exact w_X12_gap_b44 cx hr mh_fu _ _ _ _ _ h15 _ _ ls wd (lv_sub hl [2, 3, 4, 1, 0] rfl) hX
      · exact w_X12_gap_b28 cx hr _ h13 _ _ ls wd (lv_sub hl [0] rfl) hX
  · refine lv_aload_n hx hb dX12_gap_12 rfl (lv_at hl 0 rfl) ?_
    refine lv_iconst (v := 1) hx hb dX12_gap_13 (by decide) ?_
    refine mh_callVI cx wd [.int (1 : Int32)] (rfl : vwCl[12]? = some (RX12, TX12, 38)) yw_X12_fail vw_X12_122 rfl hl.1 rfl (Nat.le_of_ble_eq_true rfl) dX12_gap_14 ⟨Nat.le_of_ble_eq_true rfl, Nat.le_of_ble_eq_true rfl⟩ ⟨Nat.le_refl _, Nat.le_refl _⟩ (fun _ _ q => c_X12_fail q) hX (fun v19 h18 H locs wd hX => ?_)
    exact mh_iret cx wd hr hX dX12_gap_17
set_option maxRecDepth 100000 in
theorem c_X12_gap {l : Launch} {L : List Nat} {h h' : mh_H} {r : Int32} {o0 : Nat} {x1 : Int32} {x2 : Int32} (hX : f_X12_gap_e o0 x1 x2 h = some (r, h')) : mh_MI l yX12_gap (Cond.code yX12_gap cX12_gap 6 (some .int) :: mh_TB) (mh_rm 2) [.ref o0, .int x1, .int x2] L h r h' :=
  mh_of (mc := 0) (ms := 0) (Qc := fun D ks sz => mh_Qi D ks L sz r h') (plainFor_of_name (by decide)) (Nat.le_of_ble_eq_true rfl) (fun p e s m below meth c D ks ls hr cx wd hl => by
    have hl : lv_has ls 6 [(0, .ref o0), (1, .int x1), (2, .int x2)] := hl
    exact w_X12_gap_e cx hr o0 x1 x2 h _ _ ls wd hl hX)
def f_X12_rest_b49 (o0 : Nat) (h : mh_H) : Option (Int32 × mh_H) :=
  mh_b2 (mh_cal h o0 12 (f_X12_fail_e o0 (2 : Int32) h)) fun v2 h1 =>
  some (v2, h1)
def f_X12_rest_b76 (x3 : Int32) (h : mh_H) : Option (Int32 × mh_H) :=
  some (x3, h)
def f_X12_rest_b90 (h : mh_H) : Option (Int32 × mh_H) :=
  some ((-1 : Int32), h)
def f_X12_rest_b62 : Nat → Nat → Int32 → mh_H → Option (Int32 × mh_H)
  | 0, _, _, _ => none
  | n + 1, o0, x3, h =>
    if (100300 : Int32) < x3 then (
    f_X12_rest_b90 h) else
    mh_b2 (mh_cal h o0 12 (f_X12_isPaid_e o0 x3 h)) fun v4 h3 =>
    if v4 = 0 then (
    (mh_gR h3 o0 12 6).bind fun a5 =>
    (mh_aI h3 a5 0 (0 : Int32)).bind fun v6 =>
    mh_nm (x3 + v6) fun v7 =>
    f_X12_rest_b62 n o0 v7 h3) else
    f_X12_rest_b76 x3 h3
def f_X12_rest_e (o0 : Nat) (x1 : Int32) (x2 : Int32) (h : mh_H) : Option (Int32 × mh_H) :=
  (mh_pI h o0 12 0 (0 : Int32)).bind fun h8 =>
  mh_b2 (f_X12_isMint_e x1 h8) fun v10 h9 =>
  if v10 = 0 then (
  mh_b2 (mh_cal h9 o0 12 (f_X12_fail_e o0 (1 : Int32) h9)) fun v21 h20 =>
  some (v21, h20)) else
  (mh_gR h9 o0 12 1).bind fun a11 =>
  mh_b2 (f_X12_mintAt_e x1 h9) fun v13 h12 =>
  (mh_aI h12 a11 0 v13).bind fun v14 =>
  if v14 = 0 then (
  f_X12_rest_b49 o0 h12) else
  if x2 < 0 then (
  f_X12_rest_b49 o0 h12) else
  (mh_gR h12 o0 12 1).bind fun a15 =>
  mh_b2 (f_X12_mintAt_e x1 h12) fun v17 h16 =>
  (mh_aI h16 a15 0 (v17 + (1 : Int32))).bind fun v18 =>
  if x2 < v18 then (
  (mh_cal h16 o0 12 (f_X12_table_e o0 x1 h16)).bind fun h19 =>
  f_X12_rest_b62 mh_fu o0 x2 h19) else
  f_X12_rest_b49 o0 h16
set_option maxRecDepth 100000 in
set_option maxHeartbeats 4000000 in
theorem w_X12_rest_b49 {p : Program} {l : Launch} {e : Env} {s : State} {m : MethodId} {args : Array Value} {below : List Frame} {meth : Method} {c : Code} {D : va_G} {ks : Nat → ClassId} {L : List Nat} {r : Int32} {h' : mh_H} (cx : mh_C p m c cX12_rest 4 s args RX12 meth D ks (mh_A L s.heap.size)) (hr : meth.sig.returnType = (some .int)) :
    ∀ (o0 : Nat) (h : mh_H) (H : Heap) (locs : List Loc) (ls : Array Slot), mh_W D ks L (mh_A L s.heap.size) s.heap h H locs → lv_has ls 4 [(0, .ref o0)] → f_X12_rest_b49 o0 h = some (r, h') → W p l e (mh_rm 2) s m args below meth c H locs 0 0 (MQ below (mh_Qi D ks L s.heap.size r h') args s 0 0 (mh_A L s.heap.size)) (F0 m 49 ls []) := by
  intro o0 h H locs ls wd hl hX
  have hx := cx.1.1
  have hb := cx.1.2.1
  unfold f_X12_rest_b49 at hX
  refine lv_aload_n hx hb dX12_rest_49 rfl (lv_at hl 0 rfl) ?_
  refine lv_iconst (v := 2) hx hb dX12_rest_50 (by decide) ?_
  refine mh_callVI cx wd [.int (2 : Int32)] (rfl : vwCl[12]? = some (RX12, TX12, 38)) yw_X12_fail vw_X12_122 rfl hl.1 rfl (Nat.le_of_ble_eq_true rfl) dX12_rest_51 ⟨Nat.le_of_ble_eq_true rfl, Nat.le_of_ble_eq_true rfl⟩ ⟨Nat.le_refl _, Nat.le_refl _⟩ (fun _ _ q => c_X12_fail q) hX (fun v2 h1 H locs wd hX => ?_)
  exact mh_iret cx wd hr hX dX12_rest_54
set_option maxRecDepth 100000 in
set_option maxHeartbeats 4000000 in
theorem w_X12_rest_b76 {p : Program} {l : Launch} {e : Env} {s : State} {m : MethodId} {args : Array Value} {below : List Frame} {meth : Method} {c : Code} {D : va_G} {ks : Nat → ClassId} {L : List Nat} {r : Int32} {h' : mh_H} (cx : mh_C p m c cX12_rest 4 s args RX12 meth D ks (mh_A L s.heap.size)) (hr : meth.sig.returnType = (some .int)) :
    ∀ (x3 : Int32) (h : mh_H) (H : Heap) (locs : List Loc) (ls : Array Slot), mh_W D ks L (mh_A L s.heap.size) s.heap h H locs → lv_has ls 4 [(3, .int x3)] → f_X12_rest_b76 x3 h = some (r, h') → W p l e (mh_rm 2) s m args below meth c H locs 0 0 (MQ below (mh_Qi D ks L s.heap.size r h') args s 0 0 (mh_A L s.heap.size)) (F0 m 76 ls []) := by
  intro x3 h H locs ls wd hl hX
  have hx := cx.1.1
  have hb := cx.1.2.1
  unfold f_X12_rest_b76 at hX
  refine lv_iload_n hx hb dX12_rest_76 rfl (lv_at hl 0 rfl) ?_
  exact mh_iret cx wd hr hX dX12_rest_77
set_option maxRecDepth 100000 in
set_option maxHeartbeats 4000000 in
theorem w_X12_rest_b90 {p : Program} {l : Launch} {e : Env} {s : State} {m : MethodId} {args : Array Value} {below : List Frame} {meth : Method} {c : Code} {D : va_G} {ks : Nat → ClassId} {L : List Nat} {r : Int32} {h' : mh_H} (cx : mh_C p m c cX12_rest 4 s args RX12 meth D ks (mh_A L s.heap.size)) (hr : meth.sig.returnType = (some .int)) :
    ∀ (h : mh_H) (H : Heap) (locs : List Loc) (ls : Array Slot), mh_W D ks L (mh_A L s.heap.size) s.heap h H locs → lv_has ls 4 [] → f_X12_rest_b90  h = some (r, h') → W p l e (mh_rm 2) s m args below meth c H locs 0 0 (MQ below (mh_Qi D ks L s.heap.size r h') args s 0 0 (mh_A L s.heap.size)) (F0 m 90 ls []) := by
  intro  h H locs ls wd hl hX
  have hx := cx.1.1
  have hb := cx.1.2.1
  unfold f_X12_rest_b90 at hX
  refine lv_iconst (v := (-1)) hx hb dX12_rest_90 (by decide) ?_
  exact mh_iret cx wd hr hX dX12_rest_91
set_option maxRecDepth 100000 in
set_option maxHeartbeats 4000000 in
theorem w_X12_rest_b62 {p : Program} {l : Launch} {e : Env} {s : State} {m : MethodId} {args : Array Value} {below : List Frame} {meth : Method} {c : Code} {D : va_G} {ks : Nat → ClassId} {L : List Nat} {r : Int32} {h' : mh_H} (cx : mh_C p m c cX12_rest 4 s args RX12 meth D ks (mh_A L s.heap.size)) (hr : meth.sig.returnType = (some .int)) :
    ∀ n : Nat, ∀ (o0 : Nat) (x3 : Int32) (h : mh_H) (H : Heap) (locs : List Loc) (ls : Array Slot), mh_W D ks L (mh_A L s.heap.size) s.heap h H locs → lv_has ls 4 [(0, .ref o0), (3, .int x3)] → f_X12_rest_b62 n o0 x3 h = some (r, h') → W p l e (mh_rm 2) s m args below meth c H locs 0 0 (MQ below (mh_Qi D ks L s.heap.size r h') args s 0 0 (mh_A L s.heap.size)) (F0 m 62 ls []) := by
  intro n
  induction n with
  | zero =>
    intro o0 x3 h H locs ls wd hl hX
    cases hX
  | succ n ih =>
    intro o0 x3 h H locs ls wd hl hX
    have hx := cx.1.1
    have hb := cx.1.2.1
    rw [f_X12_rest_b62] at hX
    refine lv_iload_n hx hb dX12_rest_62 rfl (lv_at hl 1 rfl) ?_
    refine mh_ldc cx kc_X12_125 dX12_rest_63 ?_
    refine lv_icmp_gt (tgt := 90) hx hb dX12_rest_65 rfl (fun hc => (fun hX => ?_) ((mh_if hX).1 hc)) (fun hc => (fun hX => ?_) ((mh_if hX).2 hc))
    · exact w_X12_rest_b90 cx hr  h _ _ ls wd (lv_sub hl [] rfl) hX
    · refine lv_aload_n hx hb dX12_rest_68 rfl (lv_at hl 0 rfl) ?_
      refine lv_iload_n hx hb dX12_rest_69 rfl (lv_at hl 1 rfl) ?_
      refine mh_callVI cx wd [.int x3] (rfl : vwCl[12]? = some (RX12, TX12, 38)) yw_X12_isPaid vw_X12_171 rfl hl.1 rfl (Nat.le_of_ble_eq_true rfl) dX12_rest_70 ⟨Nat.le_of_ble_eq_true rfl, Nat.le_of_ble_eq_true rfl⟩ ⟨Nat.le_refl _, Nat.le_refl _⟩ (fun _ _ q => c_X12_isPaid q) hX (fun v4 h3 H locs wd hX => ?_)
      refine lv_if_eq (tgt := 78) hx hb dX12_rest_73 rfl (fun hc => (fun hX => ?_) ((mh_if hX).1 hc)) (fun hc => (fun hX => ?_) ((mh_if hX).2 hc))
      · refine lv_iload_n hx hb dX12_rest_78 rfl (lv_at hl 1 rfl) ?_
        refine lv_aload_n hx hb dX12_rest_79 rfl (lv_at hl 0 rfl) ?_
        refine mh_getR cx wd fl_X12_18 dX12_rest_80 hX (fun a5 hX => ?_)
        refine lv_iconst (v := 0) hx hb dX12_rest_83 (by decide) ?_
        refine mh_iald cx wd dX12_rest_84 hX (fun v6 hX => ?_)
        refine lv_iadd hx hb dX12_rest_85 ?_
        refine mh_topi hX (fun v7 hX => ?_)
        refine lv_istore_n (lv' := [(3, .int v7), (0, .ref o0)]) hx hb dX12_rest_86 rfl hl (Nat.le_of_ble_eq_true rfl) rfl (fun ls hl => ?_)
        refine lv_goto (tgt := 62) hx hb dX12_rest_87 rfl ?_
        exact ih _ _ h3 _ _ ls wd (lv_sub hl [1, 0] rfl) hX
      · exact w_X12_rest_b76 cx hr _ h3 _ _ ls wd (lv_sub hl [1] rfl) hX
set_option maxRecDepth 100000 in
set_option maxHeartbeats 4000000 in
theorem w_X12_rest_e {p : Program} {l : Launch} {e : Env} {s : State} {m : MethodId} {args : Array Value} {below : List Frame} {meth : Method} {c : Code} {D : va_G} {ks : Nat → ClassId} {L : List Nat} {r : Int32} {h' : mh_H} (cx : mh_C p m c cX12_rest 4 s args RX12 meth D ks (mh_A L s.heap.size)) (hr : meth.sig.returnType = (some .int)) :
    ∀ (o0 : Nat) (x1 : Int32) (x2 : Int32) (h : mh_H) (H : Heap) (locs : List Loc) (ls : Array Slot), mh_W D ks L (mh_A L s.heap.size) s.heap h H locs → lv_has ls 4 [(0, .ref o0), (1, .int x1), (2, .int x2)] → f_X12_rest_e o0 x1 x2 h = some (r, h') → W p l e (mh_rm 2) s m args below meth c H locs 0 0 (MQ below (mh_Qi D ks L s.heap.size r h') args s 0 0 (mh_A L s.heap.size)) (F0 m 0 ls []) := by
  intro o0 x1 x2 h H locs ls wd hl hX
  have hx := cx.1.1
  have hb := cx.1.2.1
  unfold f_X12_rest_e at hX
  refine lv_aload_n hx hb dX12_rest_0 rfl (lv_at hl 0 rfl) ?_
  refine lv_iconst (v := 0) hx hb dX12_rest_1 (by decide) ?_
  refine mh_putI cx wd fp_X12_96 dX12_rest_2 hX (fun h8 H locs wd hX => ?_)
  refine lv_iload_n hx hb dX12_rest_5 rfl (lv_at hl 1 rfl) ?_
  refine mh_callSI cx wd [.int x1] yw_X12_isMint sw_X12_111 rfl hl.1 rfl (Nat.le_of_ble_eq_true rfl) dX12_rest_6 ⟨Nat.le_of_ble_eq_true rfl, Nat.le_of_ble_eq_true rfl⟩ ⟨Nat.le_refl _, Nat.le_refl _⟩ (fun _ _ q => c_X12_isMint q) hX (fun v10 h9 H locs wd hX => ?_)
  refine lv_if_ne (tgt := 18) hx hb dX12_rest_9 rfl (fun hc => (fun hX => ?_) ((mh_if hX).2 hc)) (fun hc => (fun hX => ?_) ((mh_if hX).1 hc))
  · refine lv_aload_n hx hb dX12_rest_18 rfl (lv_at hl 0 rfl) ?_
    refine mh_getR cx wd fl_X12_9 dX12_rest_19 hX (fun a11 hX => ?_)
    refine lv_iload_n hx hb dX12_rest_22 rfl (lv_at hl 1 rfl) ?_
    refine mh_callSI cx wd [.int x1] yw_X12_mintAt sw_X12_115 rfl hl.1 rfl (Nat.le_of_ble_eq_true rfl) dX12_rest_23 ⟨Nat.le_of_ble_eq_true rfl, Nat.le_of_ble_eq_true rfl⟩ ⟨Nat.le_refl _, Nat.le_refl _⟩ (fun _ _ q => c_X12_mintAt q) hX (fun v13 h12 H locs wd hX => ?_)
    refine mh_iald cx wd dX12_rest_26 hX (fun v14 hX => ?_)
    refine lv_if_eq (tgt := 49) hx hb dX12_rest_27 rfl (fun hc => (fun hX => ?_) ((mh_if hX).1 hc)) (fun hc => (fun hX => ?_) ((mh_if hX).2 hc))
    · exact w_X12_rest_b49 cx hr _ h12 _ _ ls wd (lv_sub hl [0] rfl) hX
    · refine lv_iload_n hx hb dX12_rest_30 rfl (lv_at hl 2 rfl) ?_
      refine lv_if_lt (tgt := 49) hx hb dX12_rest_31 rfl (fun hc => (fun hX => ?_) ((mh_if hX).1 hc)) (fun hc => (fun hX => ?_) ((mh_if hX).2 hc))
      · exact w_X12_rest_b49 cx hr _ h12 _ _ ls wd (lv_sub hl [0] rfl) hX
      · refine lv_iload_n hx hb dX12_rest_34 rfl (lv_at hl 2 rfl) ?_
        refine lv_aload_n hx hb dX12_rest_35 rfl (lv_at hl 0 rfl) ?_
        refine mh_getR cx wd fl_X12_9 dX12_rest_36 hX (fun a15 hX => ?_)
        refine lv_iload_n hx hb dX12_rest_39 rfl (lv_at hl 1 rfl) ?_
        refine mh_callSI cx wd [.int x1] yw_X12_mintAt sw_X12_115 rfl hl.1 rfl (Nat.le_of_ble_eq_true rfl) dX12_rest_40 ⟨Nat.le_of_ble_eq_true rfl, Nat.le_of_ble_eq_true rfl⟩ ⟨Nat.le_refl _, Nat.le_refl _⟩ (fun _ _ q => c_X12_mintAt q) hX (fun v17 h16 H locs wd hX => ?_)
        refine lv_iconst (v := 1) hx hb dX12_rest_43 (by decide) ?_
        refine lv_iadd hx hb dX12_rest_44 ?_
        refine mh_iald cx wd dX12_rest_45 hX (fun v18 hX => ?_)
        refine lv_icmp_lt (tgt := 55) hx hb dX12_rest_46 rfl (fun hc => (fun hX => ?_) ((mh_if hX).1 hc)) (fun hc => (fun hX => ?_) ((mh_if hX).2 hc))
        · refine lv_aload_n hx hb dX12_rest_55 rfl (lv_at hl 0 rfl) ?_
          refine lv_iload_n hx hb dX12_rest_56 rfl (lv_at hl 1 rfl) ?_
          refine mh_callVV cx wd [.int x1] (rfl : vwCl[12]? = some (RX12, TX12, 38)) yw_X12_table vw_X12_145 rfl hl.1 rfl (Nat.le_of_ble_eq_true rfl) dX12_rest_57 ⟨Nat.le_of_ble_eq_true rfl, Nat.le_of_ble_eq_true rfl⟩ ⟨Nat.le_refl _, Nat.le_refl _⟩ (fun _ q => c_X12_table q) hX (fun h19 H locs wd hX => ?_)
          refine lv_iload_n hx hb dX12_rest_60 rfl (lv_at hl 2 rfl) ?_
          refine lv_istore_n (lv' := [(3, .int x2), (0, .ref o0), (1, .int x1), (2, .int x2)]) hx hb dX12_rest_61 rfl hl (Nat.le_of_ble_eq_true rfl) rfl (fun ls hl => ?_)
          exact w_X12_rest_b62 cx hr mh_fu _ _ h19 _ _ ls wd (lv_sub hl [1, 0] rfl) hX
        · exact w_X12_rest_b49 cx hr _ h16 _ _ ls wd (lv_sub hl [0] rfl) hX
  · refine lv_aload_n hx hb dX12_rest_12 rfl (lv_at hl 0 rfl) ?_
    refine lv_iconst (v := 1) hx hb dX12_rest_13 (by decide) ?_
    refine mh_callVI cx wd [.int (1 : Int32)] (rfl : vwCl[12]? = some (RX12, TX12, 38)) yw_X12_fail vw_X12_122 rfl hl.1 rfl (Nat.le_of_ble_eq_true rfl) dX12_rest_14 ⟨Nat.le_of_ble_eq_true rfl, Nat.le_of_ble_eq_true rfl⟩ ⟨Nat.le_refl _, Nat.le_refl _⟩ (fun _ _ q => c_X12_fail q) hX (fun v21 h20 H locs wd hX => ?_)
    exact mh_iret cx wd hr hX dX12_rest_17
set_option maxRecDepth 100000 in
theorem c_X12_rest {l : Launch} {L : List Nat} {h h' : mh_H} {r : Int32} {o0 : Nat} {x1 : Int32} {x2 : Int32} (hX : f_X12_rest_e o0 x1 x2 h = some (r, h')) : mh_MI l yX12_rest (Cond.code yX12_rest cX12_rest 4 (some .int) :: mh_TB) (mh_rm 2) [.ref o0, .int x1, .int x2] L h r h' :=
  mh_of (mc := 0) (ms := 0) (Qc := fun D ks sz => mh_Qi D ks L sz r h') (plainFor_of_name (by decide)) (Nat.le_of_ble_eq_true rfl) (fun p e s m below meth c D ks ls hr cx wd hl => by
    have hl : lv_has ls 4 [(0, .ref o0), (1, .int x1), (2, .int x2)] := hl
    exact w_X12_rest_e cx hr o0 x1 x2 h _ _ ls wd hl hX)
def f_X12_mirror_b88 (k56 : Nat → Int32 → Int32 → Int32 → mh_H → Option (Int32 × mh_H)) (o0 : Nat) (x2 : Int32) (x4 : Int32) (t0 : Int32) (h : mh_H) : Option (Int32 × mh_H) :=
  mh_nm (x4 + Int32.ofInt (1)) fun v1 =>
  k56 o0 x2 t0 v1 h
def f_X12_mirror_b95 (x3 : Int32) (h : mh_H) : Option (Int32 × mh_H) :=
  mh_rz x3 h
def f_X12_mirror_b56 : Nat → Nat → Int32 → Int32 → Int32 → mh_H → Option (Int32 × mh_H)
  | 0, _, _, _, _, _ => none
  | n + 1, o0, x2, x3, x4, h =>
    if x2 < x4 then (
    f_X12_mirror_b95 x3 h) else
    if x3 = 0 then (
    f_X12_mirror_b95 x3 h) else
    mh_b2 (mh_cal h o0 12 (f_X12_isPaid_e o0 x4 h)) fun v3 h2 =>
    mh_b2 (mh_cal h2 o0 12 (f_X12_isPaid_e o0 (x2 - x4) h2)) fun v5 h4 =>
    if v3 = v5 then (
    f_X12_mirror_b88 (f_X12_mirror_b56 n) o0 x2 x4 (0 : Int32) h4) else
    f_X12_mirror_b88 (f_X12_mirror_b56 n) o0 x2 x4 (1 : Int32) h4
def f_X12_mirror_b52 (o0 : Nat) (x2 : Int32) (t0 : Int32) (h : mh_H) : Option (Int32 × mh_H) :=
  mh_nm (0 : Int32) fun v6 =>
  f_X12_mirror_b56 mh_fu o0 x2 t0 v6 h
def f_X12_mirror_b42 (o0 : Nat) (t0 : Int32) (h : mh_H) : Option (Int32 × mh_H) :=
  if t0 < 0 then (
  f_X12_mirror_b52 o0 t0 (0 : Int32) h) else
  f_X12_mirror_b52 o0 t0 (1 : Int32) h
def f_X12_mirror_e (o0 : Nat) (x1 : Int32) (h : mh_H) : Option (Int32 × mh_H) :=
  (mh_pI h o0 12 0 (0 : Int32)).bind fun h7 =>
  mh_b2 (f_X12_isMint_e x1 h7) fun v9 h8 =>
  if v9 = 0 then (
  mh_b2 (mh_cal h8 o0 12 (f_X12_fail_e o0 (1 : Int32) h8)) fun v16 h15 =>
  mh_rz (0 : Int32) h15) else
  (mh_cal h8 o0 12 (f_X12_table_e o0 x1 h8)).bind fun h10 =>
  mh_b2 (mh_cal h10 o0 12 (f_X12_divisorOf_e o0 x1 h10)) fun v12 h11 =>
  if v12 = (1 : Int32) then (
  mh_b2 (mh_cal h11 o0 12 (f_X12_lastGap_e o0 h11)) fun v14 h13 =>
  f_X12_mirror_b42 o0 v14 h13) else
  f_X12_mirror_b42 o0 (-1 : Int32) h11
set_option maxRecDepth 100000 in
set_option maxHeartbeats 4000000 in
theorem w_X12_mirror_b88 {p : Program} {l : Launch} {e : Env} {s : State} {m : MethodId} {args : Array Value} {below : List Frame} {meth : Method} {c : Code} {D : va_G} {ks : Nat → ClassId} {L : List Nat} {r : Int32} {h' : mh_H} (k56 : Nat → Int32 → Int32 → Int32 → mh_H → Option (Int32 × mh_H)) (cx : mh_C p m c cX12_mirror 5 s args RX12 meth D ks (mh_A L s.heap.size)) (hr : meth.sig.returnType = (some .boolean))
    (hk56 : ∀ (o0 : Nat) (x2 : Int32) (x3 : Int32) (x4 : Int32) (h : mh_H) (H : Heap) (locs : List Loc) (ls : Array Slot), mh_W D ks L (mh_A L s.heap.size) s.heap h H locs → lv_has ls 5 [(0, .ref o0), (2, .int x2), (3, .int x3), (4, .int x4)] → k56 o0 x2 x3 x4 h = some (r, h') → W p l e (mh_rm 2) s m args below meth c H locs 0 0 (MQ below (mh_Qi D ks L s.heap.size r h') args s 0 0 (mh_A L s.heap.size)) (F0 m 56 ls [])) :
    ∀ (o0 : Nat) (x2 : Int32) (x4 : Int32) (t0 : Int32) (h : mh_H) (H : Heap) (locs : List Loc) (ls : Array Slot), mh_W D ks L (mh_A L s.heap.size) s.heap h H locs → lv_has ls 5 [(0, .ref o0), (2, .int x2), (4, .int x4)] → f_X12_mirror_b88 k56 o0 x2 x4 t0 h = some (r, h') → W p l e (mh_rm 2) s m args below meth c H locs 0 0 (MQ below (mh_Qi D ks L s.heap.size r h') args s 0 0 (mh_A L s.heap.size)) (F0 m 88 ls [.int t0]) := by
  intro o0 x2 x4 t0 h H locs ls wd hl hX
  have hx := cx.1.1
  have hb := cx.1.2.1
  unfold f_X12_mirror_b88 at hX
  refine lv_istore_n (lv' := [(3, .int t0), (0, .ref o0), (2, .int x2), (4, .int x4)]) hx hb dX12_mirror_88 rfl hl (Nat.le_of_ble_eq_true rfl) rfl (fun ls hl => ?_)
  obtain ⟨v1, ev1, hX⟩ := mh_nmx hX
  refine lv_iinc (k := 3) (v := v1) (lv' := [(4, .int v1), (3, .int t0), (0, .ref o0), (2, .int x2)]) hx hb dX12_mirror_89 hl rfl ev1 (Nat.le_of_ble_eq_true rfl) rfl (fun ls hl => ?_)
  refine lv_goto (tgt := 56) hx hb dX12_mirror_92 rfl ?_
  exact hk56 _ _ _ _ h _ _ ls wd (lv_sub hl [2, 3, 1, 0] rfl) hX
set_option maxRecDepth 100000 in
set_option maxHeartbeats 4000000 in
theorem w_X12_mirror_b95 {p : Program} {l : Launch} {e : Env} {s : State} {m : MethodId} {args : Array Value} {below : List Frame} {meth : Method} {c : Code} {D : va_G} {ks : Nat → ClassId} {L : List Nat} {r : Int32} {h' : mh_H} (cx : mh_C p m c cX12_mirror 5 s args RX12 meth D ks (mh_A L s.heap.size)) (hr : meth.sig.returnType = (some .boolean)) :
    ∀ (x3 : Int32) (h : mh_H) (H : Heap) (locs : List Loc) (ls : Array Slot), mh_W D ks L (mh_A L s.heap.size) s.heap h H locs → lv_has ls 5 [(3, .int x3)] → f_X12_mirror_b95 x3 h = some (r, h') → W p l e (mh_rm 2) s m args below meth c H locs 0 0 (MQ below (mh_Qi D ks L s.heap.size r h') args s 0 0 (mh_A L s.heap.size)) (F0 m 95 ls []) := by
  intro x3 h H locs ls wd hl hX
  have hx := cx.1.1
  have hb := cx.1.2.1
  unfold f_X12_mirror_b95 at hX
  refine lv_iload_n hx hb dX12_mirror_95 rfl (lv_at hl 0 rfl) ?_
  exact mh_zret cx wd hr hX dX12_mirror_96
set_option maxRecDepth 100000 in
set_option maxHeartbeats 4000000 in
theorem w_X12_mirror_b56 {p : Program} {l : Launch} {e : Env} {s : State} {m : MethodId} {args : Array Value} {below : List Frame} {meth : Method} {c : Code} {D : va_G} {ks : Nat → ClassId} {L : List Nat} {r : Int32} {h' : mh_H} (cx : mh_C p m c cX12_mirror 5 s args RX12 meth D ks (mh_A L s.heap.size)) (hr : meth.sig.returnType = (some .boolean)) :
    ∀ n : Nat, ∀ (o0 : Nat) (x2 : Int32) (x3 : Int32) (x4 : Int32) (h : mh_H) (H : Heap) (locs : List Loc) (ls : Array Slot), mh_W D ks L (mh_A L s.heap.size) s.heap h H locs → lv_has ls 5 [(0, .ref o0), (2, .int x2), (3, .int x3), (4, .int x4)] → f_X12_mirror_b56 n o0 x2 x3 x4 h = some (r, h') → W p l e (mh_rm 2) s m args below meth c H locs 0 0 (MQ below (mh_Qi D ks L s.heap.size r h') args s 0 0 (mh_A L s.heap.size)) (F0 m 56 ls []) := by
  intro n
  induction n with
  | zero =>
    intro o0 x2 x3 x4 h H locs ls wd hl hX
    cases hX
  | succ n ih =>
    intro o0 x2 x3 x4 h H locs ls wd hl hX
    have hx := cx.1.1
    have hb := cx.1.2.1
    rw [f_X12_mirror_b56] at hX
    refine lv_iload hx hb dX12_mirror_56 (lv_at hl 3 rfl) ?_
    refine lv_iload_n hx hb dX12_mirror_58 rfl (lv_at hl 1 rfl) ?_
    refine lv_icmp_gt (tgt := 95) hx hb dX12_mirror_59 rfl (fun hc => (fun hX => ?_) ((mh_if hX).1 hc)) (fun hc => (fun hX => ?_) ((mh_if hX).2 hc))
    · exact w_X12_mirror_b95 cx hr _ h _ _ ls wd (lv_sub hl [2] rfl) hX
    · refine lv_iload_n hx hb dX12_mirror_62 rfl (lv_at hl 2 rfl) ?_
      refine lv_if_eq (tgt := 95) hx hb dX12_mirror_63 rfl (fun hc => (fun hX => ?_) ((mh_if hX).1 hc)) (fun hc => (fun hX => ?_) ((mh_if hX).2 hc))
      · exact w_X12_mirror_b95 cx hr _ h _ _ ls wd (lv_sub hl [2] rfl) hX
      · refine lv_aload_n hx hb dX12_mirror_66 rfl (lv_at hl 0 rfl) ?_
        refine lv_iload hx hb dX12_mirror_67 (lv_at hl 3 rfl) ?_
        refine mh_callVI cx wd [.int x4] (rfl : vwCl[12]? = some (RX12, TX12, 38)) yw_X12_isPaid vw_X12_171 rfl hl.1 rfl (Nat.le_of_ble_eq_true rfl) dX12_mirror_69 ⟨Nat.le_of_ble_eq_true rfl, Nat.le_of_ble_eq_true rfl⟩ ⟨Nat.le_refl _, Nat.le_refl _⟩ (fun _ _ q => c_X12_isPaid q) hX (fun v3 h2 H locs wd hX => ?_)
        refine lv_aload_n hx hb dX12_mirror_72 rfl (lv_at hl 0 rfl) ?_
        refine lv_iload_n hx hb dX12_mirror_73 rfl (lv_at hl 1 rfl) ?_
        refine lv_iload hx hb dX12_mirror_74 (lv_at hl 3 rfl) ?_
        refine lv_isub hx hb dX12_mirror_76 ?_
        refine mh_callVI cx wd [.int (x2 - x4)] (rfl : vwCl[12]? = some (RX12, TX12, 38)) yw_X12_isPaid vw_X12_171 rfl hl.1 rfl (Nat.le_of_ble_eq_true rfl) dX12_mirror_77 ⟨Nat.le_of_ble_eq_true rfl, Nat.le_of_ble_eq_true rfl⟩ ⟨Nat.le_refl _, Nat.le_refl _⟩ (fun _ _ q => c_X12_isPaid q) hX (fun v5 h4 H locs wd hX => ?_)
        refine lv_icmp_eq (tgt := 87) hx hb dX12_mirror_80 rfl (fun hc => (fun hX => ?_) ((mh_if hX).1 hc)) (fun hc => (fun hX => ?_) ((mh_if hX).2 hc))
        · refine lv_iconst (v := 0) hx hb dX12_mirror_87 (by decide) ?_
          exact w_X12_mirror_b88 (f_X12_mirror_b56 n) cx hr ih _ _ _ _ h4 _ _ ls wd (lv_sub hl [0, 1, 3] rfl) hX
        · refine lv_iconst (v := 1) hx hb dX12_mirror_83 (by decide) ?_
          refine lv_goto (tgt := 88) hx hb dX12_mirror_84 rfl ?_
          exact w_X12_mirror_b88 (f_X12_mirror_b56 n) cx hr ih _ _ _ _ h4 _ _ ls wd (lv_sub hl [0, 1, 3] rfl) hX
set_option maxRecDepth 100000 in
set_option maxHeartbeats 4000000 in
theorem w_X12_mirror_b52 {p : Program} {l : Launch} {e : Env} {s : State} {m : MethodId} {args : Array Value} {below : List Frame} {meth : Method} {c : Code} {D : va_G} {ks : Nat → ClassId} {L : List Nat} {r : Int32} {h' : mh_H} (cx : mh_C p m c cX12_mirror 5 s args RX12 meth D ks (mh_A L s.heap.size)) (hr : meth.sig.returnType = (some .boolean)) :
    ∀ (o0 : Nat) (x2 : Int32) (t0 : Int32) (h : mh_H) (H : Heap) (locs : List Loc) (ls : Array Slot), mh_W D ks L (mh_A L s.heap.size) s.heap h H locs → lv_has ls 5 [(0, .ref o0), (2, .int x2)] → f_X12_mirror_b52 o0 x2 t0 h = some (r, h') → W p l e (mh_rm 2) s m args below meth c H locs 0 0 (MQ below (mh_Qi D ks L s.heap.size r h') args s 0 0 (mh_A L s.heap.size)) (F0 m 52 ls [.int t0]) := by
  intro o0 x2 t0 h H locs ls wd hl hX
  have hx := cx.1.1
  have hb := cx.1.2.1
  unfold f_X12_mirror_b52 at hX
  refine lv_istore_n (lv' := [(3, .int t0), (0, .ref o0), (2, .int x2)]) hx hb dX12_mirror_52 rfl hl (Nat.le_of_ble_eq_true rfl) rfl (fun ls hl => ?_)
  refine lv_iconst (v := 0) hx hb dX12_mirror_53 (by decide) ?_
  refine mh_topi hX (fun v6 hX => ?_)
  refine lv_istore (lv' := [(4, .int v6), (3, .int t0), (0, .ref o0), (2, .int x2)]) hx hb dX12_mirror_54 hl (Nat.le_of_ble_eq_true rfl) rfl (fun ls hl => ?_)
  exact w_X12_mirror_b56 cx hr mh_fu _ _ _ _ h _ _ ls wd (lv_sub hl [2, 3, 1, 0] rfl) hX
set_option maxRecDepth 100000 in
set_option maxHeartbeats 4000000 in
theorem w_X12_mirror_b42 {p : Program} {l : Launch} {e : Env} {s : State} {m : MethodId} {args : Array Value} {below : List Frame} {meth : Method} {c : Code} {D : va_G} {ks : Nat → ClassId} {L : List Nat} {r : Int32} {h' : mh_H} (cx : mh_C p m c cX12_mirror 5 s args RX12 meth D ks (mh_A L s.heap.size)) (hr : meth.sig.returnType = (some .boolean)) :
    ∀ (o0 : Nat) (t0 : Int32) (h : mh_H) (H : Heap) (locs : List Loc) (ls : Array Slot), mh_W D ks L (mh_A L s.heap.size) s.heap h H locs → lv_has ls 5 [(0, .ref o0)] → f_X12_mirror_b42 o0 t0 h = some (r, h') → W p l e (mh_rm 2) s m args below meth c H locs 0 0 (MQ below (mh_Qi D ks L s.heap.size r h') args s 0 0 (mh_A L s.heap.size)) (F0 m 42 ls [.int t0]) := by
  intro o0 t0 h H locs ls wd hl hX
  have hx := cx.1.1
  have hb := cx.1.2.1
  unfold f_X12_mirror_b42 at hX
  refine lv_istore_n (lv' := [(2, .int t0), (0, .ref o0)]) hx hb dX12_mirror_42 rfl hl (Nat.le_of_ble_eq_true rfl) rfl (fun ls hl => ?_)
  refine lv_iload_n hx hb dX12_mirror_43 rfl (lv_at hl 0 rfl) ?_
  refine lv_if_lt (tgt := 51) hx hb dX12_mirror_44 rfl (fun hc => (fun hX => ?_) ((mh_if hX).1 hc)) (fun hc => (fun hX => ?_) ((mh_if hX).2 hc))
  · refine lv_iconst (v := 0) hx hb dX12_mirror_51 (by decide) ?_
    exact w_X12_mirror_b52 cx hr _ _ _ h _ _ ls wd (lv_sub hl [1, 0] rfl) hX
  · refine lv_iconst (v := 1) hx hb dX12_mirror_47 (by decide) ?_
    refine lv_goto (tgt := 52) hx hb dX12_mirror_48 rfl ?_
    exact w_X12_mirror_b52 cx hr _ _ _ h _ _ ls wd (lv_sub hl [1, 0] rfl) hX
set_option maxRecDepth 100000 in
set_option maxHeartbeats 4000000 in
theorem w_X12_mirror_e {p : Program} {l : Launch} {e : Env} {s : State} {m : MethodId} {args : Array Value} {below : List Frame} {meth : Method} {c : Code} {D : va_G} {ks : Nat → ClassId} {L : List Nat} {r : Int32} {h' : mh_H} (cx : mh_C p m c cX12_mirror 5 s args RX12 meth D ks (mh_A L s.heap.size)) (hr : meth.sig.returnType = (some .boolean)) :
    ∀ (o0 : Nat) (x1 : Int32) (h : mh_H) (H : Heap) (locs : List Loc) (ls : Array Slot), mh_W D ks L (mh_A L s.heap.size) s.heap h H locs → lv_has ls 5 [(0, .ref o0), (1, .int x1)] → f_X12_mirror_e o0 x1 h = some (r, h') → W p l e (mh_rm 2) s m args below meth c H locs 0 0 (MQ below (mh_Qi D ks L s.heap.size r h') args s 0 0 (mh_A L s.heap.size)) (F0 m 0 ls []) := by
  intro o0 x1 h H locs ls wd hl hX
  have hx := cx.1.1
  have hb := cx.1.2.1
  unfold f_X12_mirror_e at hX
  refine lv_aload_n hx hb dX12_mirror_0 rfl (lv_at hl 0 rfl) ?_
  refine lv_iconst (v := 0) hx hb dX12_mirror_1 (by decide) ?_
  refine mh_putI cx wd fp_X12_96 dX12_mirror_2 hX (fun h7 H locs wd hX => ?_)
  refine lv_iload_n hx hb dX12_mirror_5 rfl (lv_at hl 1 rfl) ?_
  refine mh_callSI cx wd [.int x1] yw_X12_isMint sw_X12_111 rfl hl.1 rfl (Nat.le_of_ble_eq_true rfl) dX12_mirror_6 ⟨Nat.le_of_ble_eq_true rfl, Nat.le_of_ble_eq_true rfl⟩ ⟨Nat.le_refl _, Nat.le_refl _⟩ (fun _ _ q => c_X12_isMint q) hX (fun v9 h8 H locs wd hX => ?_)
  refine lv_if_ne (tgt := 20) hx hb dX12_mirror_9 rfl (fun hc => (fun hX => ?_) ((mh_if hX).2 hc)) (fun hc => (fun hX => ?_) ((mh_if hX).1 hc))
  · refine lv_aload_n hx hb dX12_mirror_20 rfl (lv_at hl 0 rfl) ?_
    refine lv_iload_n hx hb dX12_mirror_21 rfl (lv_at hl 1 rfl) ?_
    refine mh_callVV cx wd [.int x1] (rfl : vwCl[12]? = some (RX12, TX12, 38)) yw_X12_table vw_X12_145 rfl hl.1 rfl (Nat.le_of_ble_eq_true rfl) dX12_mirror_22 ⟨Nat.le_of_ble_eq_true rfl, Nat.le_of_ble_eq_true rfl⟩ ⟨Nat.le_refl _, Nat.le_refl _⟩ (fun _ q => c_X12_table q) hX (fun h10 H locs wd hX => ?_)
    refine lv_aload_n hx hb dX12_mirror_25 rfl (lv_at hl 0 rfl) ?_
    refine lv_iload_n hx hb dX12_mirror_26 rfl (lv_at hl 1 rfl) ?_
    refine mh_callVI cx wd [.int x1] (rfl : vwCl[12]? = some (RX12, TX12, 38)) yw_X12_divisorOf vw_X12_168 rfl hl.1 rfl (Nat.le_of_ble_eq_true rfl) dX12_mirror_27 ⟨Nat.le_of_ble_eq_true rfl, Nat.le_of_ble_eq_true rfl⟩ ⟨Nat.le_refl _, Nat.le_refl _⟩ (fun _ _ q => c_X12_divisorOf q) hX (fun v12 h11 H locs wd hX => ?_)
    refine lv_iconst (v := 1) hx hb dX12_mirror_30 (by decide) ?_
    refine lv_icmp_ne (tgt := 41) hx hb dX12_mirror_31 rfl (fun hc => (fun hX => ?_) ((mh_if hX).2 hc)) (fun hc => (fun hX => ?_) ((mh_if hX).1 hc))
    · refine lv_iconst (v := (-1)) hx hb dX12_mirror_41 (by decide) ?_
      exact w_X12_mirror_b42 cx hr _ _ h11 _ _ ls wd (lv_sub hl [0] rfl) hX
    · refine lv_aload_n hx hb dX12_mirror_34 rfl (lv_at hl 0 rfl) ?_
      refine mh_callVI cx wd [] (rfl : vwCl[12]? = some (RX12, TX12, 38)) yw_X12_lastGap vw_X12_177 rfl hl.1 rfl (Nat.le_of_ble_eq_true rfl) dX12_mirror_35 ⟨Nat.le_of_ble_eq_true rfl, Nat.le_of_ble_eq_true rfl⟩ ⟨Nat.le_refl _, Nat.le_refl _⟩ (fun _ _ q => c_X12_lastGap q) hX (fun v14 h13 H locs wd hX => ?_)
      refine lv_goto (tgt := 42) hx hb dX12_mirror_38 rfl ?_
      exact w_X12_mirror_b42 cx hr _ _ h13 _ _ ls wd (lv_sub hl [0] rfl) hX
  · refine lv_aload_n hx hb dX12_mirror_12 rfl (lv_at hl 0 rfl) ?_
    refine lv_iconst (v := 1) hx hb dX12_mirror_13 (by decide) ?_
    refine mh_callVI cx wd [.int (1 : Int32)] (rfl : vwCl[12]? = some (RX12, TX12, 38)) yw_X12_fail vw_X12_122 rfl hl.1 rfl (Nat.le_of_ble_eq_true rfl) dX12_mirror_14 ⟨Nat.le_of_ble_eq_true rfl, Nat.le_of_ble_eq_true rfl⟩ ⟨Nat.le_refl _, Nat.le_refl _⟩ (fun _ _ q => c_X12_fail q) hX (fun v16 h15 H locs wd hX => ?_)
    refine lv_pop hx hb dX12_mirror_17 rfl ?_
    refine lv_iconst (v := 0) hx hb dX12_mirror_18 (by decide) ?_
    exact mh_zret cx wd hr hX dX12_mirror_19
set_option maxRecDepth 100000 in
theorem c_X12_mirror {l : Launch} {L : List Nat} {h h' : mh_H} {r : Int32} {o0 : Nat} {x1 : Int32} (hX : f_X12_mirror_e o0 x1 h = some (r, h')) : mh_MI l yX12_mirror (Cond.code yX12_mirror cX12_mirror 5 (some .boolean) :: mh_TB) (mh_rm 2) [.ref o0, .int x1] L h r h' :=
  mh_of (mc := 0) (ms := 0) (Qc := fun D ks sz => mh_Qi D ks L sz r h') (plainFor_of_name (by decide)) (Nat.le_of_ble_eq_true rfl) (fun p e s m below meth c D ks ls hr cx wd hl => by
    have hl : lv_has ls 5 [(0, .ref o0), (1, .int x1)] := hl
    exact w_X12_mirror_e cx hr o0 x1 h _ _ ls wd hl hX)
