def f_X12_deal_b27 (x4 : Int32) (h : mh_H) : Option (Int32 × mh_H) :=
  some (x4, h)
def f_X12_deal_b125 (k57 : Nat → Int32 → Int32 → Int32 → Int32 → Int32 → Int32 → Int32 → Int32 → Int32 → mh_H → Option (Int32 × mh_H)) (o0 : Nat) (x1 : Int32) (x2 : Int32) (x3 : Int32) (x4 : Int32) (x5 : Int32) (x6 : Int32) (x7 : Int32) (x8 : Int32) (x9 : Int32) (x10 : Int32) (x11 : Int32) (h : mh_H) : Option (Int32 × mh_H) :=
  (mh_gR h o0 12 35).bind fun a1 =>
  (mh_sI h a1 (x9 - (1 : Int32)) x11).bind fun h2 =>
  mh_nm (x7 + (x11 * x10)) fun v3 =>
  mh_nm (x8 + x11) fun v4 =>
  mh_nm (x9 + Int32.ofInt (-1)) fun v5 =>
  k57 o0 x1 x2 x3 x4 x5 x6 v3 v4 v5 h2
def f_X12_deal_b89 (k57 : Nat → Int32 → Int32 → Int32 → Int32 → Int32 → Int32 → Int32 → Int32 → Int32 → mh_H → Option (Int32 × mh_H)) : Nat → Nat → Int32 → Int32 → Int32 → Int32 → Int32 → Int32 → Int32 → Int32 → Int32 → Int32 → Int32 → mh_H → Option (Int32 × mh_H)
  | 0, _, _, _, _, _, _, _, _, _, _, _, _, _ => none
  | n + 1, o0, x1, x2, x3, x4, x5, x6, x7, x8, x9, x10, x11, h =>
    mh_b2 (mh_cal h o0 12 (f_X12_least_e o0 (x9 - (1 : Int32)) x2 ((x3).toInt64) (x7 + (x11 * x10)) h)) fun v7 h6 =>
    if ((v7 + x8) + x11) = x4 then (
    f_X12_deal_b125 k57 o0 x1 x2 x3 x4 x5 x6 x7 x8 x9 x10 x11 h6) else
    mh_nm (x11 + Int32.ofInt (-1)) fun v8 =>
    f_X12_deal_b89 k57 n o0 x1 x2 x3 x4 x5 x6 x7 x8 x9 x10 v8 h6
def f_X12_deal_b253 (k181 : Nat → Int32 → Int32 → Int32 → Int32 → Int32 → Int32 → Int32 → Int32 → Int32 → mh_H → Option (Int32 × mh_H)) (o0 : Nat) (x1 : Int32) (x2 : Int32) (x3 : Int32) (x4 : Int32) (x5 : Int32) (x6 : Int32) (x9 : Int32) (x10 : Int32) (x11 : Int32) (x12 : Int32) (x13 : Int32) (h : mh_H) : Option (Int32 × mh_H) :=
  (mh_gR h o0 12 36).bind fun a9 =>
  (mh_sI h a9 (x11 - (1 : Int32)) x13).bind fun h10 =>
  mh_nm (x9 - (x13 * x12)) fun v11 =>
  mh_nm (x10 - x13) fun v12 =>
  mh_nm (x11 + Int32.ofInt (-1)) fun v13 =>
  k181 o0 x1 x2 x3 x4 x5 x6 v11 v12 v13 h10
def f_X12_deal_b221 (k181 : Nat → Int32 → Int32 → Int32 → Int32 → Int32 → Int32 → Int32 → Int32 → Int32 → mh_H → Option (Int32 × mh_H)) : Nat → Nat → Int32 → Int32 → Int32 → Int32 → Int32 → Int32 → Int32 → Int32 → Int32 → Int32 → Int32 → mh_H → Option (Int32 × mh_H)
  | 0, _, _, _, _, _, _, _, _, _, _, _, _, _ => none
  | n + 1, o0, x1, x2, x3, x4, x5, x6, x9, x10, x11, x12, x13, h =>
    (mh_gR h o0 12 31).bind fun a14 =>
    (mh_aR h a14 5 (x11 - (1 : Int32))).bind fun a15 =>
    (mh_aI h a15 0 (x9 - (x13 * x12))).bind fun v16 =>
    if (v16 + x13) = x10 then (
    f_X12_deal_b253 k181 o0 x1 x2 x3 x4 x5 x6 x9 x10 x11 x12 x13 h) else
    mh_nm (x13 + Int32.ofInt (-1)) fun v17 =>
    f_X12_deal_b221 k181 n o0 x1 x2 x3 x4 x5 x6 x9 x10 x11 x12 v17 h
def f_X12_deal_b334 (h : mh_H) : Option (Int32 × mh_H) :=
  some ((-2 : Int32), h)
def f_X12_deal_b553 (o0 : Nat) (x4 : Int32) (h : mh_H) : Option (Int32 × mh_H) :=
  (mh_cal h o0 12 (f_X12_changed_e o0 h)).bind fun h18 =>
  some (x4, h18)
def f_X12_deal_b516 : Nat → Nat → Int32 → Int32 → Nat → Int32 → mh_H → Option (Int32 × mh_H)
  | 0, _, _, _, _, _, _ => none
  | n + 1, o0, x4, x5, o11, x12, h =>
    (mh_aI h o11 0 (25 : Int32)).bind fun v19 =>
    if v19 ≤ x12 then (
    f_X12_deal_b553 o0 x4 h) else
    (mh_aI h o11 0 ((26 : Int32) + x12)).bind fun v20 =>
    (mh_gR h o0 12 36).bind fun a21 =>
    (mh_aI h a21 0 x12).bind fun v22 =>
    (mh_cal h o0 12 (f_X12_gets_e o0 x5 v20 v22 h)).bind fun h23 =>
    mh_nm (x12 + Int32.ofInt (1)) fun v24 =>
    f_X12_deal_b516 n o0 x4 x5 o11 v24 h23
def f_X12_deal_b513 (o0 : Nat) (x4 : Int32) (x5 : Int32) (o11 : Nat) (h : mh_H) : Option (Int32 × mh_H) :=
  mh_nm (0 : Int32) fun v25 =>
  f_X12_deal_b516 mh_fu o0 x4 x5 o11 v25 h
def f_X12_deal_b478 : Nat → Nat → Int32 → Int32 → Int32 → Nat → Int32 → mh_H → Option (Int32 × mh_H)
  | 0, _, _, _, _, _, _, _ => none
  | n + 1, o0, x4, x5, x6, o11, x12, h =>
    (mh_aI h o11 0 (0 : Int32)).bind fun v26 =>
    if v26 ≤ x12 then (
    f_X12_deal_b513 o0 x4 x5 o11 h) else
    (mh_aI h o11 0 ((1 : Int32) + x12)).bind fun v27 =>
    (mh_gR h o0 12 35).bind fun a28 =>
    (mh_aI h a28 0 x12).bind fun v29 =>
    (mh_cal h o0 12 (f_X12_gets_e o0 x6 v27 v29 h)).bind fun h30 =>
    mh_nm (x12 + Int32.ofInt (1)) fun v31 =>
    f_X12_deal_b478 n o0 x4 x5 x6 o11 v31 h30
def f_X12_deal_b475 (o0 : Nat) (x4 : Int32) (x5 : Int32) (x6 : Int32) (o11 : Nat) (h : mh_H) : Option (Int32 × mh_H) :=
  mh_nm (0 : Int32) fun v32 =>
  f_X12_deal_b478 mh_fu o0 x4 x5 x6 o11 v32 h
def f_X12_deal_b436 : Nat → Nat → Int32 → Int32 → Int32 → Nat → Int32 → mh_H → Option (Int32 × mh_H)
  | 0, _, _, _, _, _, _, _ => none
  | n + 1, o0, x4, x5, x6, o11, x12, h =>
    (mh_aI h o11 0 (25 : Int32)).bind fun v33 =>
    if v33 ≤ x12 then (
    f_X12_deal_b475 o0 x4 x5 x6 o11 h) else
    (mh_gR h o0 12 1).bind fun a34 =>
    (mh_aI h a34 0 ((x6 + (13 : Int32)) + x12)).bind fun v35 =>
    (mh_gR h o0 12 36).bind fun a36 =>
    (mh_aI h a36 0 x12).bind fun v37 =>
    (mh_sI h a34 ((x6 + (13 : Int32)) + x12) (v35 - v37)).bind fun h38 =>
    mh_nm (x12 + Int32.ofInt (1)) fun v39 =>
    f_X12_deal_b436 n o0 x4 x5 x6 o11 v39 h38
def f_X12_deal_b433 (o0 : Nat) (x4 : Int32) (x5 : Int32) (x6 : Int32) (o11 : Nat) (h : mh_H) : Option (Int32 × mh_H) :=
  mh_nm (0 : Int32) fun v40 =>
  f_X12_deal_b436 mh_fu o0 x4 x5 x6 o11 v40 h
def f_X12_deal_b395 : Nat → Nat → Int32 → Int32 → Int32 → Nat → Int32 → mh_H → Option (Int32 × mh_H)
  | 0, _, _, _, _, _, _, _ => none
  | n + 1, o0, x4, x5, x6, o11, x12, h =>
    (mh_aI h o11 0 (0 : Int32)).bind fun v41 =>
    if v41 ≤ x12 then (
    f_X12_deal_b433 o0 x4 x5 x6 o11 h) else
    (mh_gR h o0 12 1).bind fun a42 =>
    (mh_aI h a42 0 ((x5 + (13 : Int32)) + x12)).bind fun v43 =>
    (mh_gR h o0 12 35).bind fun a44 =>
    (mh_aI h a44 0 x12).bind fun v45 =>
    (mh_sI h a42 ((x5 + (13 : Int32)) + x12) (v43 - v45)).bind fun h46 =>
    mh_nm (x12 + Int32.ofInt (1)) fun v47 =>
    f_X12_deal_b395 n o0 x4 x5 x6 o11 v47 h46
def f_X12_deal_b392 (o0 : Nat) (x4 : Int32) (x5 : Int32) (x6 : Int32) (o11 : Nat) (h : mh_H) : Option (Int32 × mh_H) :=
  mh_nm (0 : Int32) fun v48 =>
  f_X12_deal_b395 mh_fu o0 x4 x5 x6 o11 v48 h
def f_X12_deal_b346 : Nat → Nat → Int32 → Int32 → Int32 → Nat → Int32 → mh_H → Option (Int32 × mh_H)
  | 0, _, _, _, _, _, _, _ => none
  | n + 1, o0, x4, x5, x6, o11, x12, h =>
    if (25 : Int32) ≤ x12 then (
    f_X12_deal_b392 o0 x4 x5 x6 o11 h) else
    (mh_gR h o0 12 1).bind fun a49 =>
    (mh_aI h a49 0 (x5 + x12)).bind fun v50 =>
    (mh_sI h o11 x12 v50).bind fun h51 =>
    (mh_gR h51 o0 12 1).bind fun a52 =>
    (mh_aI h51 a52 0 (x6 + x12)).bind fun v53 =>
    (mh_sI h51 o11 ((25 : Int32) + x12) v53).bind fun h54 =>
    mh_nm (x12 + Int32.ofInt (1)) fun v55 =>
    f_X12_deal_b346 n o0 x4 x5 x6 o11 v55 h54
def f_X12_deal_b287 (o0 : Nat) (x1 : Int32) (x2 : Int32) (x3 : Int32) (x4 : Int32) (x5 : Int32) (x6 : Int32) (h : mh_H) : Option (Int32 × mh_H) :=
  (mh_gR h o0 12 36).bind fun a56 =>
  (mh_gR h o0 12 35).bind fun a57 =>
  mh_b2 (mh_cal h o0 12 (f_X12_fits_e o0 x1 x2 a56 a57 h)) fun v59 h58 =>
  if v59 = 0 then (
  f_X12_deal_b334 h58) else
  (mh_gR h58 o0 12 35).bind fun a60 =>
  (mh_gR h58 o0 12 36).bind fun a61 =>
  mh_b2 (mh_cal h58 o0 12 (f_X12_fits_e o0 x2 x1 a60 a61 h58)) fun v63 h62 =>
  if v63 = 0 then (
  f_X12_deal_b334 h62) else
  mh_b2 (mh_cal h62 o0 12 (f_X12_allOf_e o0 x2 h62)) fun v65 h64 =>
  if (v65 + x3) ≤ (20000 : Int32) then (
  (mh_gR h64 o0 12 37).bind fun a66 =>
  mh_nm (0 : Int32) fun v67 =>
  f_X12_deal_b346 mh_fu o0 x4 x5 x6 a66 v67 h64) else
  f_X12_deal_b334 h64
def f_X12_deal_b181 : Nat → Nat → Int32 → Int32 → Int32 → Int32 → Int32 → Int32 → Int32 → Int32 → Int32 → mh_H → Option (Int32 × mh_H)
  | 0, _, _, _, _, _, _, _, _, _, _, _ => none
  | n + 1, o0, x1, x2, x3, x4, x5, x6, x9, x10, x11, h =>
    if x11 ≤ 0 then (
    f_X12_deal_b287 o0 x1 x2 x3 x4 x5 x6 h) else
    (mh_gR h o0 12 1).bind fun a68 =>
    (mh_aI h a68 0 (x6 + x11)).bind fun v69 =>
    (mh_gR h o0 12 1).bind fun a70 =>
    (mh_aI h a70 0 ((x6 + (12 : Int32)) + x11)).bind fun v71 =>
    mh_nz (v69 = 0) <|
    mh_nm (if (x9 / v69) < v71 then (x9 / v69) else v71) fun v72 =>
    f_X12_deal_b221 (f_X12_deal_b181 n) mh_fu o0 x1 x2 x3 x4 x5 x6 x9 x10 x11 v69 v72 h
def f_X12_deal_b159 (o0 : Nat) (x1 : Int32) (x2 : Int32) (x3 : Int32) (x4 : Int32) (x5 : Int32) (x6 : Int32) (x7 : Int32) (x8 : Int32) (h : mh_H) : Option (Int32 × mh_H) :=
  mh_nm (x7 - x3) fun v73 =>
  mh_nm (x4 - x8) fun v74 =>
  (mh_gR h o0 12 1).bind fun a75 =>
  (mh_aI h a75 0 x6).bind fun v76 =>
  f_X12_deal_b181 mh_fu o0 x1 x2 x3 x4 x5 x6 v73 v74 v76 h
def f_X12_deal_b57 : Nat → Nat → Int32 → Int32 → Int32 → Int32 → Int32 → Int32 → Int32 → Int32 → Int32 → mh_H → Option (Int32 × mh_H)
  | 0, _, _, _, _, _, _, _, _, _, _, _ => none
  | n + 1, o0, x1, x2, x3, x4, x5, x6, x7, x8, x9, h =>
    if x9 ≤ 0 then (
    f_X12_deal_b159 o0 x1 x2 x3 x4 x5 x6 x7 x8 h) else
    (mh_gR h o0 12 1).bind fun a77 =>
    (mh_aI h a77 0 (x5 + x9)).bind fun v78 =>
    (mh_gR h o0 12 1).bind fun a79 =>
    (mh_aI h a79 0 ((x5 + (12 : Int32)) + x9)).bind fun v80 =>
    f_X12_deal_b89 (f_X12_deal_b57 n) mh_fu o0 x1 x2 x3 x4 x5 x6 x7 x8 x9 v78 v80 h
def f_X12_deal_e (o0 : Nat) (x1 : Int32) (x2 : Int32) (x3 : Int32) (h : mh_H) : Option (Int32 × mh_H) :=
  (mh_pI h o0 12 0 (0 : Int32)).bind fun h81 =>
  mh_b2 (mh_cal h81 o0 12 (f_X12_change_e o0 x1 x2 x3 h81)) fun v83 h82 =>
  (mh_gI h82 o0 12 0).bind fun v84 =>
  if v84 = 0 then (
  if v83 = (-1 : Int32) then (
  f_X12_deal_b27 v83 h82) else
  mh_b2 (f_X12_purseAt_e x1 h82) fun v86 h85 =>
  mh_b2 (f_X12_purseAt_e x2 h85) fun v88 h87 =>
  mh_nm (0 : Int32) fun v89 =>
  mh_nm (0 : Int32) fun v90 =>
  (mh_gR h87 o0 12 1).bind fun a91 =>
  (mh_aI h87 a91 0 v86).bind fun v92 =>
  f_X12_deal_b57 mh_fu o0 x1 x2 x3 v83 v86 v88 v89 v90 v92 h87) else
  f_X12_deal_b27 v83 h82
set_option maxRecDepth 100000 in
set_option maxHeartbeats 4000000 in
theorem w_X12_deal_b27 {p : Program} {l : Launch} {e : Env} {s : State} {m : MethodId} {args : Array Value} {below : List Frame} {meth : Method} {c : Code} {D : va_G} {ks : Nat → ClassId} {L : List Nat} {r : Int32} {h' : mh_H} (cx : mh_C p m c cX12_deal 14 s args RX12 meth D ks (mh_A L s.heap.size)) (hr : meth.sig.returnType = (some .int)) :
    ∀ (x4 : Int32) (h : mh_H) (H : Heap) (locs : List Loc) (ls : Array Slot), mh_W D ks L (mh_A L s.heap.size) s.heap h H locs → lv_has ls 14 [(4, .int x4)] → f_X12_deal_b27 x4 h = some (r, h') → W p l e (mh_rm 4) s m args below meth c H locs 0 0 (MQ below (mh_Qi D ks L s.heap.size r h') args s 0 0 (mh_A L s.heap.size)) (F0 m 27 ls []) := by
  intro x4 h H locs ls wd hl hX
  have hx := cx.1.1
  have hb := cx.1.2.1
  unfold f_X12_deal_b27 at hX
  refine lv_iload hx hb dX12_deal_27 (lv_at hl 0 rfl) ?_
  exact mh_iret cx wd hr hX dX12_deal_29
set_option maxRecDepth 100000 in
set_option maxHeartbeats 4000000 in
theorem w_X12_deal_b125 {p : Program} {l : Launch} {e : Env} {s : State} {m : MethodId} {args : Array Value} {below : List Frame} {meth : Method} {c : Code} {D : va_G} {ks : Nat → ClassId} {L : List Nat} {r : Int32} {h' : mh_H} (k57 : Nat → Int32 → Int32 → Int32 → Int32 → Int32 → Int32 → Int32 → Int32 → Int32 → mh_H → Option (Int32 × mh_H)) (cx : mh_C p m c cX12_deal 14 s args RX12 meth D ks (mh_A L s.heap.size)) (hr : meth.sig.returnType = (some .int))
    (hk57 : ∀ (o0 : Nat) (x1 : Int32) (x2 : Int32) (x3 : Int32) (x4 : Int32) (x5 : Int32) (x6 : Int32) (x7 : Int32) (x8 : Int32) (x9 : Int32) (h : mh_H) (H : Heap) (locs : List Loc) (ls : Array Slot), mh_W D ks L (mh_A L s.heap.size) s.heap h H locs → lv_has ls 14 [(0, .ref o0), (1, .int x1), (2, .int x2), (3, .int x3), (4, .int x4), (5, .int x5), (6, .int x6), (7, .int x7), (8, .int x8), (9, .int x9)] → k57 o0 x1 x2 x3 x4 x5 x6 x7 x8 x9 h = some (r, h') → W p l e (mh_rm 4) s m args below meth c H locs 0 0 (MQ below (mh_Qi D ks L s.heap.size r h') args s 0 0 (mh_A L s.heap.size)) (F0 m 57 ls [])) :
    ∀ (o0 : Nat) (x1 : Int32) (x2 : Int32) (x3 : Int32) (x4 : Int32) (x5 : Int32) (x6 : Int32) (x7 : Int32) (x8 : Int32) (x9 : Int32) (x10 : Int32) (x11 : Int32) (h : mh_H) (H : Heap) (locs : List Loc) (ls : Array Slot), mh_W D ks L (mh_A L s.heap.size) s.heap h H locs → lv_has ls 14 [(0, .ref o0), (1, .int x1), (2, .int x2), (3, .int x3), (4, .int x4), (5, .int x5), (6, .int x6), (7, .int x7), (8, .int x8), (9, .int x9), (10, .int x10), (11, .int x11)] → f_X12_deal_b125 k57 o0 x1 x2 x3 x4 x5 x6 x7 x8 x9 x10 x11 h = some (r, h') → W p l e (mh_rm 4) s m args below meth c H locs 0 0 (MQ below (mh_Qi D ks L s.heap.size r h') args s 0 0 (mh_A L s.heap.size)) (F0 m 125 ls []) := by
  intro o0 x1 x2 x3 x4 x5 x6 x7 x8 x9 x10 x11 h H locs ls wd hl hX
  have hx := cx.1.1
  have hb := cx.1.2.1
  unfold f_X12_deal_b125 at hX
  refine lv_aload_n hx hb dX12_deal_125 rfl (lv_at hl 0 rfl) ?_
  refine mh_getR cx wd fl_X12_87 dX12_deal_126 hX (fun a1 hX => ?_)
  refine lv_iload hx hb dX12_deal_129 (lv_at hl 9 rfl) ?_
  refine lv_iconst (v := 1) hx hb dX12_deal_131 (by decide) ?_
  refine lv_isub hx hb dX12_deal_132 ?_
  refine lv_iload hx hb dX12_deal_133 (lv_at hl 11 rfl) ?_
  refine mh_iast cx wd dX12_deal_135 hX (fun h2 H locs wd hX => ?_)
  refine lv_iload hx hb dX12_deal_136 (lv_at hl 7 rfl) ?_
  refine lv_iload hx hb dX12_deal_138 (lv_at hl 11 rfl) ?_
  refine lv_iload hx hb dX12_deal_140 (lv_at hl 10 rfl) ?_
  refine lv_imul hx hb dX12_deal_142 ?_
  refine lv_iadd hx hb dX12_deal_143 ?_
  refine mh_topi hX (fun v3 hX => ?_)
  refine lv_istore (lv' := [(7, .int v3), (0, .ref o0), (1, .int x1), (2, .int x2), (3, .int x3), (4, .int x4), (5, .int x5), (6, .int x6), (8, .int x8), (9, .int x9), (10, .int x10), (11, .int x11)]) hx hb dX12_deal_144 hl (Nat.le_of_ble_eq_true rfl) rfl (fun ls hl => ?_)
  refine lv_iload hx hb dX12_deal_146 (lv_at hl 8 rfl) ?_
  refine lv_iload hx hb dX12_deal_148 (lv_at hl 11 rfl) ?_
  refine lv_iadd hx hb dX12_deal_150 ?_
  refine mh_topi hX (fun v4 hX => ?_)
  refine lv_istore (lv' := [(8, .int v4), (7, .int v3), (0, .ref o0), (1, .int x1), (2, .int x2), (3, .int x3), (4, .int x4), (5, .int x5), (6, .int x6), (9, .int x9), (10, .int x10), (11, .int x11)]) hx hb dX12_deal_151 hl (Nat.le_of_ble_eq_true rfl) rfl (fun ls hl => ?_)
  obtain ⟨v5, ev5, hX⟩ := mh_nmx hX
  refine lv_iinc (k := 9) (v := v5) (lv' := [(9, .int v5), (8, .int v4), (7, .int v3), (0, .ref o0), (1, .int x1), (2, .int x2), (3, .int x3), (4, .int x4), (5, .int x5), (6, .int x6), (10, .int x10), (11, .int x11)]) hx hb dX12_deal_153 hl rfl ev5 (Nat.le_of_ble_eq_true rfl) rfl (fun ls hl => ?_)
  refine lv_goto (tgt := 57) hx hb dX12_deal_156 rfl ?_
  exact hk57 _ _ _ _ _ _ _ _ _ _ h2 _ _ ls wd (lv_sub hl [3, 4, 5, 6, 7, 8, 9, 2, 1, 0] rfl) hX
set_option maxRecDepth 100000 in
set_option maxHeartbeats 4000000 in
theorem w_X12_deal_b89 {p : Program} {l : Launch} {e : Env} {s : State} {m : MethodId} {args : Array Value} {below : List Frame} {meth : Method} {c : Code} {D : va_G} {ks : Nat → ClassId} {L : List Nat} {r : Int32} {h' : mh_H} (k57 : Nat → Int32 → Int32 → Int32 → Int32 → Int32 → Int32 → Int32 → Int32 → Int32 → mh_H → Option (Int32 × mh_H)) (cx : mh_C p m c cX12_deal 14 s args RX12 meth D ks (mh_A L s.heap.size)) (hr : meth.sig.returnType = (some .int))
    (hk57 : ∀ (o0 : Nat) (x1 : Int32) (x2 : Int32) (x3 : Int32) (x4 : Int32) (x5 : Int32) (x6 : Int32) (x7 : Int32) (x8 : Int32) (x9 : Int32) (h : mh_H) (H : Heap) (locs : List Loc) (ls : Array Slot), mh_W D ks L (mh_A L s.heap.size) s.heap h H locs → lv_has ls 14 [(0, .ref o0), (1, .int x1), (2, .int x2), (3, .int x3), (4, .int x4), (5, .int x5), (6, .int x6), (7, .int x7), (8, .int x8), (9, .int x9)] → k57 o0 x1 x2 x3 x4 x5 x6 x7 x8 x9 h = some (r, h') → W p l e (mh_rm 4) s m args below meth c H locs 0 0 (MQ below (mh_Qi D ks L s.heap.size r h') args s 0 0 (mh_A L s.heap.size)) (F0 m 57 ls [])) :
    ∀ n : Nat, ∀ (o0 : Nat) (x1 : Int32) (x2 : Int32) (x3 : Int32) (x4 : Int32) (x5 : Int32) (x6 : Int32) (x7 : Int32) (x8 : Int32) (x9 : Int32) (x10 : Int32) (x11 : Int32) (h : mh_H) (H : Heap) (locs : List Loc) (ls : Array Slot), mh_W D ks L (mh_A L s.heap.size) s.heap h H locs → lv_has ls 14 [(0, .ref o0), (1, .int x1), (2, .int x2), (3, .int x3), (4, .int x4), (5, .int x5), (6, .int x6), (7, .int x7), (8, .int x8), (9, .int x9), (10, .int x10), (11, .int x11)] → f_X12_deal_b89 k57 n o0 x1 x2 x3 x4 x5 x6 x7 x8 x9 x10 x11 h = some (r, h') → W p l e (mh_rm 4) s m args below meth c H locs 0 0 (MQ below (mh_Qi D ks L s.heap.size r h') args s 0 0 (mh_A L s.heap.size)) (F0 m 89 ls []) := by
  intro n
  induction n with
  | zero =>
    intro o0 x1 x2 x3 x4 x5 x6 x7 x8 x9 x10 x11 h H locs ls wd hl hX
    cases hX
  | succ n ih =>
    intro o0 x1 x2 x3 x4 x5 x6 x7 x8 x9 x10 x11 h H locs ls wd hl hX
    have hx := cx.1.1
    have hb := cx.1.2.1
    rw [f_X12_deal_b89] at hX
    refine lv_aload_n hx hb dX12_deal_89 rfl (lv_at hl 0 rfl) ?_
    refine lv_iload hx hb dX12_deal_90 (lv_at hl 9 rfl) ?_
    refine lv_iconst (v := 1) hx hb dX12_deal_92 (by decide) ?_
    refine lv_isub hx hb dX12_deal_93 ?_
    refine lv_iload_n hx hb dX12_deal_94 rfl (lv_at hl 2 rfl) ?_
    refine lv_iload_n hx hb dX12_deal_95 rfl (lv_at hl 3 rfl) ?_
    refine lv_i2l hx hb dX12_deal_96 rfl ?_
    refine lv_iload hx hb dX12_deal_97 (lv_at hl 7 rfl) ?_
    refine lv_iload hx hb dX12_deal_99 (lv_at hl 11 rfl) ?_
    refine lv_iload hx hb dX12_deal_101 (lv_at hl 10 rfl) ?_
    refine lv_imul hx hb dX12_deal_103 ?_
    refine lv_iadd hx hb dX12_deal_104 ?_
    refine mh_callVI cx wd [.int (x9 - (1 : Int32)), .int x2, .long ((x3).toInt64), .int (x7 + (x11 * x10))] (rfl : vwCl[12]? = some (RX12, TX12, 38)) yw_X12_least vw_X12_274 rfl hl.1 rfl (Nat.le_of_ble_eq_true rfl) dX12_deal_105 ⟨Nat.le_of_ble_eq_true rfl, Nat.le_of_ble_eq_true rfl⟩ ⟨Nat.le_refl _, Nat.le_refl _⟩ (fun _ _ q => c_X12_least q) hX (fun v7 h6 H locs wd hX => ?_)
    refine lv_iload hx hb dX12_deal_108 (lv_at hl 8 rfl) ?_
    refine lv_iadd hx hb dX12_deal_110 ?_
    refine lv_iload hx hb dX12_deal_111 (lv_at hl 11 rfl) ?_
    refine lv_iadd hx hb dX12_deal_113 ?_
    refine lv_iload hx hb dX12_deal_114 (lv_at hl 4 rfl) ?_
    refine lv_icmp_eq (tgt := 125) hx hb dX12_deal_116 rfl (fun hc => (fun hX => ?_) ((mh_if hX).1 hc)) (fun hc => (fun hX => ?_) ((mh_if hX).2 hc))
    · exact w_X12_deal_b125 k57 cx hr hk57 _ _ _ _ _ _ _ _ _ _ _ _ h6 _ _ ls wd (lv_sub hl [0, 1, 2, 3, 4, 5, 6, 7, 8, 9, 10, 11] rfl) hX
    · obtain ⟨v8, ev8, hX⟩ := mh_nmx hX
      refine lv_iinc (k := 11) (v := v8) (lv' := [(11, .int v8), (0, .ref o0), (1, .int x1), (2, .int x2), (3, .int x3), (4, .int x4), (5, .int x5), (6, .int x6), (7, .int x7), (8, .int x8), (9, .int x9), (10, .int x10)]) hx hb dX12_deal_119 hl rfl ev8 (Nat.le_of_ble_eq_true rfl) rfl (fun ls hl => ?_)
      refine lv_goto (tgt := 89) hx hb dX12_deal_122 rfl ?_
      exact ih _ _ _ _ _ _ _ _ _ _ _ _ h6 _ _ ls wd (lv_sub hl [1, 2, 3, 4, 5, 6, 7, 8, 9, 10, 11, 0] rfl) hX
set_option maxRecDepth 100000 in
set_option maxHeartbeats 4000000 in
theorem w_X12_deal_b253 {p : Program} {l : Launch} {e : Env} {s : State} {m : MethodId} {args : Array Value} {below : List Frame} {meth : Method} {c : Code} {D : va_G} {ks : Nat → ClassId} {L : List Nat} {r : Int32} {h' : mh_H} (k181 : Nat → Int32 → Int32 → Int32 → Int32 → Int32 → Int32 → Int32 → Int32 → Int32 → mh_H → Option (Int32 × mh_H)) (cx : mh_C p m c cX12_deal 14 s args RX12 meth D ks (mh_A L s.heap.size)) (hr : meth.sig.returnType = (some .int))
    (hk181 : ∀ (o0 : Nat) (x1 : Int32) (x2 : Int32) (x3 : Int32) (x4 : Int32) (x5 : Int32) (x6 : Int32) (x9 : Int32) (x10 : Int32) (x11 : Int32) (h : mh_H) (H : Heap) (locs : List Loc) (ls : Array Slot), mh_W D ks L (mh_A L s.heap.size) s.heap h H locs → lv_has ls 14 [(0, .ref o0), (1, .int x1), (2, .int x2), (3, .int x3), (4, .int x4), (5, .int x5), (6, .int x6), (9, .int x9), (10, .int x10), (11, .int x11)] → k181 o0 x1 x2 x3 x4 x5 x6 x9 x10 x11 h = some (r, h') → W p l e (mh_rm 4) s m args below meth c H locs 0 0 (MQ below (mh_Qi D ks L s.heap.size r h') args s 0 0 (mh_A L s.heap.size)) (F0 m 181 ls [])) :
    ∀ (o0 : Nat) (x1 : Int32) (x2 : Int32) (x3 : Int32) (x4 : Int32) (x5 : Int32) (x6 : Int32) (x9 : Int32) (x10 : Int32) (x11 : Int32) (x12 : Int32) (x13 : Int32) (h : mh_H) (H : Heap) (locs : List Loc) (ls : Array Slot), mh_W D ks L (mh_A L s.heap.size) s.heap h H locs → lv_has ls 14 [(0, .ref o0), (1, .int x1), (2, .int x2), (3, .int x3), (4, .int x4), (5, .int x5), (6, .int x6), (9, .int x9), (10, .int x10), (11, .int x11), (12, .int x12), (13, .int x13)] → f_X12_deal_b253 k181 o0 x1 x2 x3 x4 x5 x6 x9 x10 x11 x12 x13 h = some (r, h') → W p l e (mh_rm 4) s m args below meth c H locs 0 0 (MQ below (mh_Qi D ks L s.heap.size r h') args s 0 0 (mh_A L s.heap.size)) (F0 m 253 ls []) := by
  intro o0 x1 x2 x3 x4 x5 x6 x9 x10 x11 x12 x13 h H locs ls wd hl hX
  have hx := cx.1.1
  have hb := cx.1.2.1
  unfold f_X12_deal_b253 at hX
  refine lv_aload_n hx hb dX12_deal_253 rfl (lv_at hl 0 rfl) ?_
  refine mh_getR cx wd fl_X12_90 dX12_deal_254 hX (fun a9 hX => ?_)
  refine lv_iload hx hb dX12_deal_257 (lv_at hl 9 rfl) ?_
  refine lv_iconst (v := 1) hx hb dX12_deal_259 (by decide) ?_
  refine lv_isub hx hb dX12_deal_260 ?_
  refine lv_iload hx hb dX12_deal_261 (lv_at hl 11 rfl) ?_
  refine mh_iast cx wd dX12_deal_263 hX (fun h10 H locs wd hX => ?_)
  refine lv_iload hx hb dX12_deal_264 (lv_at hl 7 rfl) ?_
  refine lv_iload hx hb dX12_deal_266 (lv_at hl 11 rfl) ?_
  refine lv_iload hx hb dX12_deal_268 (lv_at hl 10 rfl) ?_
  refine lv_imul hx hb dX12_deal_270 ?_
  refine lv_isub hx hb dX12_deal_271 ?_
  refine mh_topi hX (fun v11 hX => ?_)
  refine lv_istore (lv' := [(9, .int v11), (0, .ref o0), (1, .int x1), (2, .int x2), (3, .int x3), (4, .int x4), (5, .int x5), (6, .int x6), (10, .int x10), (11, .int x11), (12, .int x12), (13, .int x13)]) hx hb dX12_deal_272 hl (Nat.le_of_ble_eq_true rfl) rfl (fun ls hl => ?_)
  refine lv_iload hx hb dX12_deal_274 (lv_at hl 8 rfl) ?_
  refine lv_iload hx hb dX12_deal_276 (lv_at hl 11 rfl) ?_
  refine lv_isub hx hb dX12_deal_278 ?_
  refine mh_topi hX (fun v12 hX => ?_)
  refine lv_istore (lv' := [(10, .int v12), (9, .int v11), (0, .ref o0), (1, .int x1), (2, .int x2), (3, .int x3), (4, .int x4), (5, .int x5), (6, .int x6), (11, .int x11), (12, .int x12), (13, .int x13)]) hx hb dX12_deal_279 hl (Nat.le_of_ble_eq_true rfl) rfl (fun ls hl => ?_)
  obtain ⟨v13, ev13, hX⟩ := mh_nmx hX
  refine lv_iinc (k := 9) (v := v13) (lv' := [(11, .int v13), (10, .int v12), (9, .int v11), (0, .ref o0), (1, .int x1), (2, .int x2), (3, .int x3), (4, .int x4), (5, .int x5), (6, .int x6), (12, .int x12), (13, .int x13)]) hx hb dX12_deal_281 hl rfl ev13 (Nat.le_of_ble_eq_true rfl) rfl (fun ls hl => ?_)
  refine lv_goto (tgt := 181) hx hb dX12_deal_284 rfl ?_
  exact hk181 _ _ _ _ _ _ _ _ _ _ h10 _ _ ls wd (lv_sub hl [3, 4, 5, 6, 7, 8, 9, 2, 1, 0] rfl) hX
set_option maxRecDepth 100000 in
set_option maxHeartbeats 4000000 in
theorem w_X12_deal_b221 {p : Program} {l : Launch} {e : Env} {s : State} {m : MethodId} {args : Array Value} {below : List Frame} {meth : Method} {c : Code} {D : va_G} {ks : Nat → ClassId} {L : List Nat} {r : Int32} {h' : mh_H} (k181 : Nat → Int32 → Int32 → Int32 → Int32 → Int32 → Int32 → Int32 → Int32 → Int32 → mh_H → Option (Int32 × mh_H)) (cx : mh_C p m c cX12_deal 14 s args RX12 meth D ks (mh_A L s.heap.size)) (hr : meth.sig.returnType = (some .int))
    (hk181 : ∀ (o0 : Nat) (x1 : Int32) (x2 : Int32) (x3 : Int32) (x4 : Int32) (x5 : Int32) (x6 : Int32) (x9 : Int32) (x10 : Int32) (x11 : Int32) (h : mh_H) (H : Heap) (locs : List Loc) (ls : Array Slot), mh_W D ks L (mh_A L s.heap.size) s.heap h H locs → lv_has ls 14 [(0, .ref o0), (1, .int x1), (2, .int x2), (3, .int x3), (4, .int x4), (5, .int x5), (6, .int x6), (9, .int x9), (10, .int x10), (11, .int x11)] → k181 o0 x1 x2 x3 x4 x5 x6 x9 x10 x11 h = some (r, h') → W p l e (mh_rm 4) s m args below meth c H locs 0 0 (MQ below (mh_Qi D ks L s.heap.size r h') args s 0 0 (mh_A L s.heap.size)) (F0 m 181 ls [])) :
    ∀ n : Nat, ∀ (o0 : Nat) (x1 : Int32) (x2 : Int32) (x3 : Int32) (x4 : Int32) (x5 : Int32) (x6 : Int32) (x9 : Int32) (x10 : Int32) (x11 : Int32) (x12 : Int32) (x13 : Int32) (h : mh_H) (H : Heap) (locs : List Loc) (ls : Array Slot), mh_W D ks L (mh_A L s.heap.size) s.heap h H locs → lv_has ls 14 [(0, .ref o0), (1, .int x1), (2, .int x2), (3, .int x3), (4, .int x4), (5, .int x5), (6, .int x6), (9, .int x9), (10, .int x10), (11, .int x11), (12, .int x12), (13, .int x13)] → f_X12_deal_b221 k181 n o0 x1 x2 x3 x4 x5 x6 x9 x10 x11 x12 x13 h = some (r, h') → W p l e (mh_rm 4) s m args below meth c H locs 0 0 (MQ below (mh_Qi D ks L s.heap.size r h') args s 0 0 (mh_A L s.heap.size)) (F0 m 221 ls []) := by
  intro n
  induction n with
  | zero =>
    intro o0 x1 x2 x3 x4 x5 x6 x9 x10 x11 x12 x13 h H locs ls wd hl hX
    cases hX
  | succ n ih =>
    intro o0 x1 x2 x3 x4 x5 x6 x9 x10 x11 x12 x13 h H locs ls wd hl hX
    have hx := cx.1.1
    have hb := cx.1.2.1
    rw [f_X12_deal_b221] at hX
    refine lv_aload_n hx hb dX12_deal_221 rfl (lv_at hl 0 rfl) ?_
    refine mh_getR cx wd fl_X12_75 dX12_deal_222 hX (fun a14 hX => ?_)
    refine lv_iload hx hb dX12_deal_225 (lv_at hl 9 rfl) ?_
    refine lv_iconst (v := 1) hx hb dX12_deal_227 (by decide) ?_
    refine lv_isub hx hb dX12_deal_228 ?_
    refine mh_aald cx wd 5 rfl rfl dX12_deal_229 hX (fun a15 hX => ?_)
    refine lv_iload hx hb dX12_deal_230 (lv_at hl 7 rfl) ?_
    refine lv_iload hx hb dX12_deal_232 (lv_at hl 11 rfl) ?_
    refine lv_iload hx hb dX12_deal_234 (lv_at hl 10 rfl) ?_
    refine lv_imul hx hb dX12_deal_236 ?_
    refine lv_isub hx hb dX12_deal_237 ?_
    refine mh_iald cx wd dX12_deal_238 hX (fun v16 hX => ?_)
    refine lv_iload hx hb dX12_deal_239 (lv_at hl 11 rfl) ?_
    refine lv_iadd hx hb dX12_deal_241 ?_
    refine lv_iload hx hb dX12_deal_242 (lv_at hl 8 rfl) ?_
    refine lv_icmp_eq (tgt := 253) hx hb dX12_deal_244 rfl (fun hc => (fun hX => ?_) ((mh_if hX).1 hc)) (fun hc => (fun hX => ?_) ((mh_if hX).2 hc))
    · exact w_X12_deal_b253 k181 cx hr hk181 _ _ _ _ _ _ _ _ _ _ _ _ h _ _ ls wd (lv_sub hl [0, 1, 2, 3, 4, 5, 6, 7, 8, 9, 10, 11] rfl) hX
    · obtain ⟨v17, ev17, hX⟩ := mh_nmx hX
      refine lv_iinc (k := 11) (v := v17) (lv' := [(13, .int v17), (0, .ref o0), (1, .int x1), (2, .int x2), (3, .int x3), (4, .int x4), (5, .int x5), (6, .int x6), (9, .int x9), (10, .int x10), (11, .int x11), (12, .int x12)]) hx hb dX12_deal_247 hl rfl ev17 (Nat.le_of_ble_eq_true rfl) rfl (fun ls hl => ?_)
      refine lv_goto (tgt := 221) hx hb dX12_deal_250 rfl ?_
      exact ih _ _ _ _ _ _ _ _ _ _ _ _ h _ _ ls wd (lv_sub hl [1, 2, 3, 4, 5, 6, 7, 8, 9, 10, 11, 0] rfl) hX
set_option maxRecDepth 100000 in
set_option maxHeartbeats 4000000 in
theorem w_X12_deal_b334 {p : Program} {l : Launch} {e : Env} {s : State} {m : MethodId} {args : Array Value} {below : List Frame} {meth : Method} {c : Code} {D : va_G} {ks : Nat → ClassId} {L : List Nat} {r : Int32} {h' : mh_H} (cx : mh_C p m c cX12_deal 14 s args RX12 meth D ks (mh_A L s.heap.size)) (hr : meth.sig.returnType = (some .int)) :
    ∀ (h : mh_H) (H : Heap) (locs : List Loc) (ls : Array Slot), mh_W D ks L (mh_A L s.heap.size) s.heap h H locs → lv_has ls 14 [] → f_X12_deal_b334  h = some (r, h') → W p l e (mh_rm 4) s m args below meth c H locs 0 0 (MQ below (mh_Qi D ks L s.heap.size r h') args s 0 0 (mh_A L s.heap.size)) (F0 m 334 ls []) := by
  intro  h H locs ls wd hl hX
  have hx := cx.1.1
  have hb := cx.1.2.1
  unfold f_X12_deal_b334 at hX
  refine lv_bipush (v := (-2)) hx hb dX12_deal_334 (by decide) ?_
  exact mh_iret cx wd hr hX dX12_deal_336
set_option maxRecDepth 100000 in
set_option maxHeartbeats 4000000 in
theorem w_X12_deal_b553 {p : Program} {l : Launch} {e : Env} {s : State} {m : MethodId} {args : Array Value} {below : List Frame} {meth : Method} {c : Code} {D : va_G} {ks : Nat → ClassId} {L : List Nat} {r : Int32} {h' : mh_H} (cx : mh_C p m c cX12_deal 14 s args RX12 meth D ks (mh_A L s.heap.size)) (hr : meth.sig.returnType = (some .int)) :
    ∀ (o0 : Nat) (x4 : Int32) (h : mh_H) (H : Heap) (locs : List Loc) (ls : Array Slot), mh_W D ks L (mh_A L s.heap.size) s.heap h H locs → lv_has ls 14 [(0, .ref o0), (4, .int x4)] → f_X12_deal_b553 o0 x4 h = some (r, h') → W p l e (mh_rm 4) s m args below meth c H locs 0 0 (MQ below (mh_Qi D ks L s.heap.size r h') args s 0 0 (mh_A L s.heap.size)) (F0 m 553 ls []) := by
  intro o0 x4 h H locs ls wd hl hX
  have hx := cx.1.1
  have hb := cx.1.2.1
  unfold f_X12_deal_b553 at hX
  refine lv_aload_n hx hb dX12_deal_553 rfl (lv_at hl 0 rfl) ?_
  refine mh_callVV cx wd [] (rfl : vwCl[12]? = some (RX12, TX12, 38)) yw_X12_changed vw_X12_119 rfl hl.1 rfl (Nat.le_of_ble_eq_true rfl) dX12_deal_554 ⟨Nat.le_of_ble_eq_true rfl, Nat.le_of_ble_eq_true rfl⟩ ⟨Nat.le_refl _, Nat.le_refl _⟩ (fun _ q => c_X12_changed q) hX (fun h18 H locs wd hX => ?_)
  refine lv_iload hx hb dX12_deal_557 (lv_at hl 1 rfl) ?_
  exact mh_iret cx wd hr hX dX12_deal_559
set_option maxRecDepth 100000 in
set_option maxHeartbeats 4000000 in
theorem w_X12_deal_b516 {p : Program} {l : Launch} {e : Env} {s : State} {m : MethodId} {args : Array Value} {below : List Frame} {meth : Method} {c : Code} {D : va_G} {ks : Nat → ClassId} {L : List Nat} {r : Int32} {h' : mh_H} (cx : mh_C p m c cX12_deal 14 s args RX12 meth D ks (mh_A L s.heap.size)) (hr : meth.sig.returnType = (some .int)) :
    ∀ n : Nat, ∀ (o0 : Nat) (x4 : Int32) (x5 : Int32) (o11 : Nat) (x12 : Int32) (h : mh_H) (H : Heap) (locs : List Loc) (ls : Array Slot), mh_W D ks L (mh_A L s.heap.size) s.heap h H locs → lv_has ls 14 [(0, .ref o0), (4, .int x4), (5, .int x5), (11, .ref o11), (12, .int x12)] → f_X12_deal_b516 n o0 x4 x5 o11 x12 h = some (r, h') → W p l e (mh_rm 4) s m args below meth c H locs 0 0 (MQ below (mh_Qi D ks L s.heap.size r h') args s 0 0 (mh_A L s.heap.size)) (F0 m 516 ls []) := by
  intro n
  induction n with
  | zero =>
    intro o0 x4 x5 o11 x12 h H locs ls wd hl hX
    cases hX
  | succ n ih =>
    intro o0 x4 x5 o11 x12 h H locs ls wd hl hX
    have hx := cx.1.1
    have hb := cx.1.2.1
    rw [f_X12_deal_b516] at hX
    refine lv_iload hx hb dX12_deal_516 (lv_at hl 4 rfl) ?_
    refine lv_aload hx hb dX12_deal_518 (lv_at hl 3 rfl) ?_
    refine lv_bipush (v := 25) hx hb dX12_deal_520 (by decide) ?_
    refine mh_iald cx wd dX12_deal_522 hX (fun v19 hX => ?_)
    refine lv_icmp_ge (tgt := 553) hx hb dX12_deal_523 rfl (fun hc => (fun hX => ?_) ((mh_if hX).1 hc)) (fun hc => (fun hX => ?_) ((mh_if hX).2 hc))
    · exact w_X12_deal_b553 cx hr _ _ h _ _ ls wd (lv_sub hl [0, 1] rfl) hX
    · refine lv_aload_n hx hb dX12_deal_526 rfl (lv_at hl 0 rfl) ?_
      refine lv_iload hx hb dX12_deal_527 (lv_at hl 2 rfl) ?_
      refine lv_aload hx hb dX12_deal_529 (lv_at hl 3 rfl) ?_
      refine lv_bipush (v := 26) hx hb dX12_deal_531 (by decide) ?_
      refine lv_iload hx hb dX12_deal_533 (lv_at hl 4 rfl) ?_
      refine lv_iadd hx hb dX12_deal_535 ?_
      refine mh_iald cx wd dX12_deal_536 hX (fun v20 hX => ?_)
      refine lv_aload_n hx hb dX12_deal_537 rfl (lv_at hl 0 rfl) ?_
      refine mh_getR cx wd fl_X12_90 dX12_deal_538 hX (fun a21 hX => ?_)
      refine lv_iload hx hb dX12_deal_541 (lv_at hl 4 rfl) ?_
      refine mh_iald cx wd dX12_deal_543 hX (fun v22 hX => ?_)
      refine mh_callVV cx wd [.int x5, .int v20, .int v22] (rfl : vwCl[12]? = some (RX12, TX12, 38)) yw_X12_gets vw_X12_286 rfl hl.1 rfl (Nat.le_of_ble_eq_true rfl) dX12_deal_544 ⟨Nat.le_of_ble_eq_true rfl, Nat.le_of_ble_eq_true rfl⟩ ⟨Nat.le_refl _, Nat.le_refl _⟩ (fun _ q => c_X12_gets q) hX (fun h23 H locs wd hX => ?_)
      obtain ⟨v24, ev24, hX⟩ := mh_nmx hX
      refine lv_iinc (k := 4) (v := v24) (lv' := [(12, .int v24), (0, .ref o0), (4, .int x4), (5, .int x5), (11, .ref o11)]) hx hb dX12_deal_547 hl rfl ev24 (Nat.le_of_ble_eq_true rfl) rfl (fun ls hl => ?_)
      refine lv_goto (tgt := 516) hx hb dX12_deal_550 rfl ?_
      exact ih _ _ _ _ _ h23 _ _ ls wd (lv_sub hl [1, 2, 3, 4, 0] rfl) hX
set_option maxRecDepth 100000 in
set_option maxHeartbeats 4000000 in
theorem w_X12_deal_b513 {p : Program} {l : Launch} {e : Env} {s : State} {m : MethodId} {args : Array Value} {below : List Frame} {meth : Method} {c : Code} {D : va_G} {ks : Nat → ClassId} {L : List Nat} {r : Int32} {h' : mh_H} (cx : mh_C p m c cX12_deal 14 s args RX12 meth D ks (mh_A L s.heap.size)) (hr : meth.sig.returnType = (some .int)) :
    ∀ (o0 : Nat) (x4 : Int32) (x5 : Int32) (o11 : Nat) (h : mh_H) (H : Heap) (locs : List Loc) (ls : Array Slot), mh_W D ks L (mh_A L s.heap.size) s.heap h H locs → lv_has ls 14 [(0, .ref o0), (4, .int x4), (5, .int x5), (11, .ref o11)] → f_X12_deal_b513 o0 x4 x5 o11 h = some (r, h') → W p l e (mh_rm 4) s m args below meth c H locs 0 0 (MQ below (mh_Qi D ks L s.heap.size r h') args s 0 0 (mh_A L s.heap.size)) (F0 m 513 ls []) := by
  intro o0 x4 x5 o11 h H locs ls wd hl hX
  have hx := cx.1.1
  have hb := cx.1.2.1
  unfold f_X12_deal_b513 at hX
  refine lv_iconst (v := 0) hx hb dX12_deal_513 (by decide) ?_
  refine mh_topi hX (fun v25 hX => ?_)
  refine lv_istore (lv' := [(12, .int v25), (0, .ref o0), (4, .int x4), (5, .int x5), (11, .ref o11)]) hx hb dX12_deal_514 hl (Nat.le_of_ble_eq_true rfl) rfl (fun ls hl => ?_)
  exact w_X12_deal_b516 cx hr mh_fu _ _ _ _ _ h _ _ ls wd (lv_sub hl [1, 2, 3, 4, 0] rfl) hX
set_option maxRecDepth 100000 in
set_option maxHeartbeats 4000000 in
theorem w_X12_deal_b478 {p : Program} {l : Launch} {e : Env} {s : State} {m : MethodId} {args : Array Value} {below : List Frame} {meth : Method} {c : Code} {D : va_G} {ks : Nat → ClassId} {L : List Nat} {r : Int32} {h' : mh_H} (cx : mh_C p m c cX12_deal 14 s args RX12 meth D ks (mh_A L s.heap.size)) (hr : meth.sig.returnType = (some .int)) :
    ∀ n : Nat, ∀ (o0 : Nat) (x4 : Int32) (x5 : Int32) (x6 : Int32) (o11 : Nat) (x12 : Int32) (h : mh_H) (H : Heap) (locs : List Loc) (ls : Array Slot), mh_W D ks L (mh_A L s.heap.size) s.heap h H locs → lv_has ls 14 [(0, .ref o0), (4, .int x4), (5, .int x5), (6, .int x6), (11, .ref o11), (12, .int x12)] → f_X12_deal_b478 n o0 x4 x5 x6 o11 x12 h = some (r, h') → W p l e (mh_rm 4) s m args below meth c H locs 0 0 (MQ below (mh_Qi D ks L s.heap.size r h') args s 0 0 (mh_A L s.heap.size)) (F0 m 478 ls []) := by
  intro n
  induction n with
  | zero =>
    intro o0 x4 x5 x6 o11 x12 h H locs ls wd hl hX
    cases hX
  | succ n ih =>
    intro o0 x4 x5 x6 o11 x12 h H locs ls wd hl hX
    have hx := cx.1.1
    have hb := cx.1.2.1
    rw [f_X12_deal_b478] at hX
    refine lv_iload hx hb dX12_deal_478 (lv_at hl 5 rfl) ?_
    refine lv_aload hx hb dX12_deal_480 (lv_at hl 4 rfl) ?_
    refine lv_iconst (v := 0) hx hb dX12_deal_482 (by decide) ?_
    refine mh_iald cx wd dX12_deal_483 hX (fun v26 hX => ?_)
    refine lv_icmp_ge (tgt := 513) hx hb dX12_deal_484 rfl (fun hc => (fun hX => ?_) ((mh_if hX).1 hc)) (fun hc => (fun hX => ?_) ((mh_if hX).2 hc))
    · exact w_X12_deal_b513 cx hr _ _ _ _ h _ _ ls wd (lv_sub hl [0, 1, 2, 4] rfl) hX
    · refine lv_aload_n hx hb dX12_deal_487 rfl (lv_at hl 0 rfl) ?_
      refine lv_iload hx hb dX12_deal_488 (lv_at hl 3 rfl) ?_
      refine lv_aload hx hb dX12_deal_490 (lv_at hl 4 rfl) ?_
      refine lv_iconst (v := 1) hx hb dX12_deal_492 (by decide) ?_
      refine lv_iload hx hb dX12_deal_493 (lv_at hl 5 rfl) ?_
      refine lv_iadd hx hb dX12_deal_495 ?_
      refine mh_iald cx wd dX12_deal_496 hX (fun v27 hX => ?_)
      refine lv_aload_n hx hb dX12_deal_497 rfl (lv_at hl 0 rfl) ?_
      refine mh_getR cx wd fl_X12_87 dX12_deal_498 hX (fun a28 hX => ?_)
      refine lv_iload hx hb dX12_deal_501 (lv_at hl 5 rfl) ?_
      refine mh_iald cx wd dX12_deal_503 hX (fun v29 hX => ?_)
      refine mh_callVV cx wd [.int x6, .int v27, .int v29] (rfl : vwCl[12]? = some (RX12, TX12, 38)) yw_X12_gets vw_X12_286 rfl hl.1 rfl (Nat.le_of_ble_eq_true rfl) dX12_deal_504 ⟨Nat.le_of_ble_eq_true rfl, Nat.le_of_ble_eq_true rfl⟩ ⟨Nat.le_refl _, Nat.le_refl _⟩ (fun _ q => c_X12_gets q) hX (fun h30 H locs wd hX => ?_)
      obtain ⟨v31, ev31, hX⟩ := mh_nmx hX
      refine lv_iinc (k := 5) (v := v31) (lv' := [(12, .int v31), (0, .ref o0), (4, .int x4), (5, .int x5), (6, .int x6), (11, .ref o11)]) hx hb dX12_deal_507 hl rfl ev31 (Nat.le_of_ble_eq_true rfl) rfl (fun ls hl => ?_)
      refine lv_goto (tgt := 478) hx hb dX12_deal_510 rfl ?_
      exact ih _ _ _ _ _ _ h30 _ _ ls wd (lv_sub hl [1, 2, 3, 4, 5, 0] rfl) hX
set_option maxRecDepth 100000 in
set_option maxHeartbeats 4000000 in
theorem w_X12_deal_b475 {p : Program} {l : Launch} {e : Env} {s : State} {m : MethodId} {args : Array Value} {below : List Frame} {meth : Method} {c : Code} {D : va_G} {ks : Nat → ClassId} {L : List Nat} {r : Int32} {h' : mh_H} (cx : mh_C p m c cX12_deal 14 s args RX12 meth D ks (mh_A L s.heap.size)) (hr : meth.sig.returnType = (some .int)) :
    ∀ (o0 : Nat) (x4 : Int32) (x5 : Int32) (x6 : Int32) (o11 : Nat) (h : mh_H) (H : Heap) (locs : List Loc) (ls : Array Slot), mh_W D ks L (mh_A L s.heap.size) s.heap h H locs → lv_has ls 14 [(0, .ref o0), (4, .int x4), (5, .int x5), (6, .int x6), (11, .ref o11)] → f_X12_deal_b475 o0 x4 x5 x6 o11 h = some (r, h') → W p l e (mh_rm 4) s m args below meth c H locs 0 0 (MQ below (mh_Qi D ks L s.heap.size r h') args s 0 0 (mh_A L s.heap.size)) (F0 m 475 ls []) := by
  intro o0 x4 x5 x6 o11 h H locs ls wd hl hX
  have hx := cx.1.1
  have hb := cx.1.2.1
  unfold f_X12_deal_b475 at hX
  refine lv_iconst (v := 0) hx hb dX12_deal_475 (by decide) ?_
  refine mh_topi hX (fun v32 hX => ?_)
  refine lv_istore (lv' := [(12, .int v32), (0, .ref o0), (4, .int x4), (5, .int x5), (6, .int x6), (11, .ref o11)]) hx hb dX12_deal_476 hl (Nat.le_of_ble_eq_true rfl) rfl (fun ls hl => ?_)
  exact w_X12_deal_b478 cx hr mh_fu _ _ _ _ _ _ h _ _ ls wd (lv_sub hl [1, 2, 3, 4, 5, 0] rfl) hX
set_option maxRecDepth 100000 in
set_option maxHeartbeats 4000000 in
theorem w_X12_deal_b436 {p : Program} {l : Launch} {e : Env} {s : State} {m : MethodId} {args : Array Value} {below : List Frame} {meth : Method} {c : Code} {D : va_G} {ks : Nat → ClassId} {L : List Nat} {r : Int32} {h' : mh_H} (cx : mh_C p m c cX12_deal 14 s args RX12 meth D ks (mh_A L s.heap.size)) (hr : meth.sig.returnType = (some .int)) :
    ∀ n : Nat, ∀ (o0 : Nat) (x4 : Int32) (x5 : Int32) (x6 : Int32) (o11 : Nat) (x12 : Int32) (h : mh_H) (H : Heap) (locs : List Loc) (ls : Array Slot), mh_W D ks L (mh_A L s.heap.size) s.heap h H locs → lv_has ls 14 [(0, .ref o0), (4, .int x4), (5, .int x5), (6, .int x6), (11, .ref o11), (12, .int x12)] → f_X12_deal_b436 n o0 x4 x5 x6 o11 x12 h = some (r, h') → W p l e (mh_rm 4) s m args below meth c H locs 0 0 (MQ below (mh_Qi D ks L s.heap.size r h') args s 0 0 (mh_A L s.heap.size)) (F0 m 436 ls []) := by
  intro n
  induction n with
  | zero =>
    intro o0 x4 x5 x6 o11 x12 h H locs ls wd hl hX
    cases hX
  | succ n ih =>
    intro o0 x4 x5 x6 o11 x12 h H locs ls wd hl hX
    have hx := cx.1.1
    have hb := cx.1.2.1
    rw [f_X12_deal_b436] at hX
    refine lv_iload hx hb dX12_deal_436 (lv_at hl 5 rfl) ?_
    refine lv_aload hx hb dX12_deal_438 (lv_at hl 4 rfl) ?_
    refine lv_bipush (v := 25) hx hb dX12_deal_440 (by decide) ?_
    refine mh_iald cx wd dX12_deal_442 hX (fun v33 hX => ?_)
    refine lv_icmp_ge (tgt := 475) hx hb dX12_deal_443 rfl (fun hc => (fun hX => ?_) ((mh_if hX).1 hc)) (fun hc => (fun hX => ?_) ((mh_if hX).2 hc))
    · exact w_X12_deal_b475 cx hr _ _ _ _ _ h _ _ ls wd (lv_sub hl [0, 1, 2, 3, 4] rfl) hX
    · refine lv_aload_n hx hb dX12_deal_446 rfl (lv_at hl 0 rfl) ?_
      refine mh_getR cx wd fl_X12_9 dX12_deal_447 hX (fun a34 hX => ?_)
      refine lv_iload hx hb dX12_deal_450 (lv_at hl 3 rfl) ?_
      refine lv_bipush (v := 13) hx hb dX12_deal_452 (by decide) ?_
      refine lv_iadd hx hb dX12_deal_454 ?_
      refine lv_iload hx hb dX12_deal_455 (lv_at hl 5 rfl) ?_
      refine lv_iadd hx hb dX12_deal_457 ?_
      refine lv_dup2_11 hx hb dX12_deal_458 rfl rfl ?_
      refine mh_iald cx wd dX12_deal_459 hX (fun v35 hX => ?_)
      refine lv_aload_n hx hb dX12_deal_460 rfl (lv_at hl 0 rfl) ?_
      refine mh_getR cx wd fl_X12_90 dX12_deal_461 hX (fun a36 hX => ?_)
      refine lv_iload hx hb dX12_deal_464 (lv_at hl 5 rfl) ?_
      refine mh_iald cx wd dX12_deal_466 hX (fun v37 hX => ?_)
      refine lv_isub hx hb dX12_deal_467 ?_
      refine mh_iast cx wd dX12_deal_468 hX (fun h38 H locs wd hX => ?_)
      obtain ⟨v39, ev39, hX⟩ := mh_nmx hX
      refine lv_iinc (k := 5) (v := v39) (lv' := [(12, .int v39), (0, .ref o0), (4, .int x4), (5, .int x5), (6, .int x6), (11, .ref o11)]) hx hb dX12_deal_469 hl rfl ev39 (Nat.le_of_ble_eq_true rfl) rfl (fun ls hl => ?_)
      refine lv_goto (tgt := 436) hx hb dX12_deal_472 rfl ?_
      exact ih _ _ _ _ _ _ h38 _ _ ls wd (lv_sub hl [1, 2, 3, 4, 5, 0] rfl) hX
set_option maxRecDepth 100000 in
set_option maxHeartbeats 4000000 in
theorem w_X12_deal_b433 {p : Program} {l : Launch} {e : Env} {s : State} {m : MethodId} {args : Array Value} {below : List Frame} {meth : Method} {c : Code} {D : va_G} {ks : Nat → ClassId} {L : List Nat} {r : Int32} {h' : mh_H} (cx : mh_C p m c cX12_deal 14 s args RX12 meth D ks (mh_A L s.heap.size)) (hr : meth.sig.returnType = (some .int)) :
    ∀ (o0 : Nat) (x4 : Int32) (x5 : Int32) (x6 : Int32) (o11 : Nat) (h : mh_H) (H : Heap) (locs : List Loc) (ls : Array Slot), mh_W D ks L (mh_A L s.heap.size) s.heap h H locs → lv_has ls 14 [(0, .ref o0), (4, .int x4), (5, .int x5), (6, .int x6), (11, .ref o11)] → f_X12_deal_b433 o0 x4 x5 x6 o11 h = some (r, h') → W p l e (mh_rm 4) s m args below meth c H locs 0 0 (MQ below (mh_Qi D ks L s.heap.size r h') args s 0 0 (mh_A L s.heap.size)) (F0 m 433 ls []) := by
  intro o0 x4 x5 x6 o11 h H locs ls wd hl hX
  have hx := cx.1.1
  have hb := cx.1.2.1
  unfold f_X12_deal_b433 at hX
  refine lv_iconst (v := 0) hx hb dX12_deal_433 (by decide) ?_
  refine mh_topi hX (fun v40 hX => ?_)
  refine lv_istore (lv' := [(12, .int v40), (0, .ref o0), (4, .int x4), (5, .int x5), (6, .int x6), (11, .ref o11)]) hx hb dX12_deal_434 hl (Nat.le_of_ble_eq_true rfl) rfl (fun ls hl => ?_)
  exact w_X12_deal_b436 cx hr mh_fu _ _ _ _ _ _ h _ _ ls wd (lv_sub hl [1, 2, 3, 4, 5, 0] rfl) hX
set_option maxRecDepth 100000 in
set_option maxHeartbeats 4000000 in
theorem w_X12_deal_b395 {p : Program} {l : Launch} {e : Env} {s : State} {m : MethodId} {args : Array Value} {below : List Frame} {meth : Method} {c : Code} {D : va_G} {ks : Nat → ClassId} {L : List Nat} {r : Int32} {h' : mh_H} (cx : mh_C p m c cX12_deal 14 s args RX12 meth D ks (mh_A L s.heap.size)) (hr : meth.sig.returnType = (some .int)) :
    ∀ n : Nat, ∀ (o0 : Nat) (x4 : Int32) (x5 : Int32) (x6 : Int32) (o11 : Nat) (x12 : Int32) (h : mh_H) (H : Heap) (locs : List Loc) (ls : Array Slot), mh_W D ks L (mh_A L s.heap.size) s.heap h H locs → lv_has ls 14 [(0, .ref o0), (4, .int x4), (5, .int x5), (6, .int x6), (11, .ref o11), (12, .int x12)] → f_X12_deal_b395 n o0 x4 x5 x6 o11 x12 h = some (r, h') → W p l e (mh_rm 4) s m args below meth c H locs 0 0 (MQ below (mh_Qi D ks L s.heap.size r h') args s 0 0 (mh_A L s.heap.size)) (F0 m 395 ls []) := by
  intro n
  induction n with
  | zero =>
    intro o0 x4 x5 x6 o11 x12 h H locs ls wd hl hX
    cases hX
  | succ n ih =>
    intro o0 x4 x5 x6 o11 x12 h H locs ls wd hl hX
    have hx := cx.1.1
    have hb := cx.1.2.1
    rw [f_X12_deal_b395] at hX
    refine lv_iload hx hb dX12_deal_395 (lv_at hl 5 rfl) ?_
    refine lv_aload hx hb dX12_deal_397 (lv_at hl 4 rfl) ?_
    refine lv_iconst (v := 0) hx hb dX12_deal_399 (by decide) ?_
    refine mh_iald cx wd dX12_deal_400 hX (fun v41 hX => ?_)
    refine lv_icmp_ge (tgt := 433) hx hb dX12_deal_401 rfl (fun hc => (fun hX => ?_) ((mh_if hX).1 hc)) (fun hc => (fun hX => ?_) ((mh_if hX).2 hc))
    · exact w_X12_deal_b433 cx hr _ _ _ _ _ h _ _ ls wd (lv_sub hl [0, 1, 2, 3, 4] rfl) hX
    · refine lv_aload_n hx hb dX12_deal_404 rfl (lv_at hl 0 rfl) ?_
      refine mh_getR cx wd fl_X12_9 dX12_deal_405 hX (fun a42 hX => ?_)
      refine lv_iload hx hb dX12_deal_408 (lv_at hl 2 rfl) ?_
      refine lv_bipush (v := 13) hx hb dX12_deal_410 (by decide) ?_
      refine lv_iadd hx hb dX12_deal_412 ?_
      refine lv_iload hx hb dX12_deal_413 (lv_at hl 5 rfl) ?_
      refine lv_iadd hx hb dX12_deal_415 ?_
      refine lv_dup2_11 hx hb dX12_deal_416 rfl rfl ?_
      refine mh_iald cx wd dX12_deal_417 hX (fun v43 hX => ?_)
      refine lv_aload_n hx hb dX12_deal_418 rfl (lv_at hl 0 rfl) ?_
      refine mh_getR cx wd fl_X12_87 dX12_deal_419 hX (fun a44 hX => ?_)
      refine lv_iload hx hb dX12_deal_422 (lv_at hl 5 rfl) ?_
      refine mh_iald cx wd dX12_deal_424 hX (fun v45 hX => ?_)
      refine lv_isub hx hb dX12_deal_425 ?_
      refine mh_iast cx wd dX12_deal_426 hX (fun h46 H locs wd hX => ?_)
      obtain ⟨v47, ev47, hX⟩ := mh_nmx hX
      refine lv_iinc (k := 5) (v := v47) (lv' := [(12, .int v47), (0, .ref o0), (4, .int x4), (5, .int x5), (6, .int x6), (11, .ref o11)]) hx hb dX12_deal_427 hl rfl ev47 (Nat.le_of_ble_eq_true rfl) rfl (fun ls hl => ?_)
      refine lv_goto (tgt := 395) hx hb dX12_deal_430 rfl ?_
      exact ih _ _ _ _ _ _ h46 _ _ ls wd (lv_sub hl [1, 2, 3, 4, 5, 0] rfl) hX
set_option maxRecDepth 100000 in
set_option maxHeartbeats 4000000 in
theorem w_X12_deal_b392 {p : Program} {l : Launch} {e : Env} {s : State} {m : MethodId} {args : Array Value} {below : List Frame} {meth : Method} {c : Code} {D : va_G} {ks : Nat → ClassId} {L : List Nat} {r : Int32} {h' : mh_H} (cx : mh_C p m c cX12_deal 14 s args RX12 meth D ks (mh_A L s.heap.size)) (hr : meth.sig.returnType = (some .int)) :
    ∀ (o0 : Nat) (x4 : Int32) (x5 : Int32) (x6 : Int32) (o11 : Nat) (h : mh_H) (H : Heap) (locs : List Loc) (ls : Array Slot), mh_W D ks L (mh_A L s.heap.size) s.heap h H locs → lv_has ls 14 [(0, .ref o0), (4, .int x4), (5, .int x5), (6, .int x6), (11, .ref o11)] → f_X12_deal_b392 o0 x4 x5 x6 o11 h = some (r, h') → W p l e (mh_rm 4) s m args below meth c H locs 0 0 (MQ below (mh_Qi D ks L s.heap.size r h') args s 0 0 (mh_A L s.heap.size)) (F0 m 392 ls []) := by
  intro o0 x4 x5 x6 o11 h H locs ls wd hl hX
  have hx := cx.1.1
  have hb := cx.1.2.1
  unfold f_X12_deal_b392 at hX
  refine lv_iconst (v := 0) hx hb dX12_deal_392 (by decide) ?_
  refine mh_topi hX (fun v48 hX => ?_)
  refine lv_istore (lv' := [(12, .int v48), (0, .ref o0), (4, .int x4), (5, .int x5), (6, .int x6), (11, .ref o11)]) hx hb dX12_deal_393 hl (Nat.le_of_ble_eq_true rfl) rfl (fun ls hl => ?_)
  exact w_X12_deal_b395 cx hr mh_fu _ _ _ _ _ _ h _ _ ls wd (lv_sub hl [1, 2, 3, 4, 5, 0] rfl) hX
set_option maxRecDepth 100000 in
set_option maxHeartbeats 4000000 in
theorem w_X12_deal_b346 {p : Program} {l : Launch} {e : Env} {s : State} {m : MethodId} {args : Array Value} {below : List Frame} {meth : Method} {c : Code} {D : va_G} {ks : Nat → ClassId} {L : List Nat} {r : Int32} {h' : mh_H} (cx : mh_C p m c cX12_deal 14 s args RX12 meth D ks (mh_A L s.heap.size)) (hr : meth.sig.returnType = (some .int)) :
    ∀ n : Nat, ∀ (o0 : Nat) (x4 : Int32) (x5 : Int32) (x6 : Int32) (o11 : Nat) (x12 : Int32) (h : mh_H) (H : Heap) (locs : List Loc) (ls : Array Slot), mh_W D ks L (mh_A L s.heap.size) s.heap h H locs → lv_has ls 14 [(0, .ref o0), (4, .int x4), (5, .int x5), (6, .int x6), (11, .ref o11), (12, .int x12)] → f_X12_deal_b346 n o0 x4 x5 x6 o11 x12 h = some (r, h') → W p l e (mh_rm 4) s m args below meth c H locs 0 0 (MQ below (mh_Qi D ks L s.heap.size r h') args s 0 0 (mh_A L s.heap.size)) (F0 m 346 ls []) := by
  intro n
  induction n with
  | zero =>
    intro o0 x4 x5 x6 o11 x12 h H locs ls wd hl hX
    cases hX
  | succ n ih =>
    intro o0 x4 x5 x6 o11 x12 h H locs ls wd hl hX
    have hx := cx.1.1
    have hb := cx.1.2.1
    rw [f_X12_deal_b346] at hX
    refine lv_iload hx hb dX12_deal_346 (lv_at hl 5 rfl) ?_
    refine lv_bipush (v := 25) hx hb dX12_deal_348 (by decide) ?_
    refine lv_icmp_ge (tgt := 392) hx hb dX12_deal_350 rfl (fun hc => (fun hX => ?_) ((mh_if hX).1 hc)) (fun hc => (fun hX => ?_) ((mh_if hX).2 hc))
    · exact w_X12_deal_b392 cx hr _ _ _ _ _ h _ _ ls wd (lv_sub hl [0, 1, 2, 3, 4] rfl) hX
    · refine lv_aload hx hb dX12_deal_353 (lv_at hl 4 rfl) ?_
      refine lv_iload hx hb dX12_deal_355 (lv_at hl 5 rfl) ?_
      refine lv_aload_n hx hb dX12_deal_357 rfl (lv_at hl 0 rfl) ?_
      refine mh_getR cx wd fl_X12_9 dX12_deal_358 hX (fun a49 hX => ?_)
      refine lv_iload hx hb dX12_deal_361 (lv_at hl 2 rfl) ?_
      refine lv_iload hx hb dX12_deal_363 (lv_at hl 5 rfl) ?_
      refine lv_iadd hx hb dX12_deal_365 ?_
      refine mh_iald cx wd dX12_deal_366 hX (fun v50 hX => ?_)
      refine mh_iast cx wd dX12_deal_367 hX (fun h51 H locs wd hX => ?_)
      refine lv_aload hx hb dX12_deal_368 (lv_at hl 4 rfl) ?_
      refine lv_bipush (v := 25) hx hb dX12_deal_370 (by decide) ?_
      refine lv_iload hx hb dX12_deal_372 (lv_at hl 5 rfl) ?_
      refine lv_iadd hx hb dX12_deal_374 ?_
      refine lv_aload_n hx hb dX12_deal_375 rfl (lv_at hl 0 rfl) ?_
      refine mh_getR cx wd fl_X12_9 dX12_deal_376 hX (fun a52 hX => ?_)
      refine lv_iload hx hb dX12_deal_379 (lv_at hl 3 rfl) ?_
      refine lv_iload hx hb dX12_deal_381 (lv_at hl 5 rfl) ?_
      refine lv_iadd hx hb dX12_deal_383 ?_
      refine mh_iald cx wd dX12_deal_384 hX (fun v53 hX => ?_)
      refine mh_iast cx wd dX12_deal_385 hX (fun h54 H locs wd hX => ?_)
      obtain ⟨v55, ev55, hX⟩ := mh_nmx hX
      refine lv_iinc (k := 5) (v := v55) (lv' := [(12, .int v55), (0, .ref o0), (4, .int x4), (5, .int x5), (6, .int x6), (11, .ref o11)]) hx hb dX12_deal_386 hl rfl ev55 (Nat.le_of_ble_eq_true rfl) rfl (fun ls hl => ?_)
      refine lv_goto (tgt := 346) hx hb dX12_deal_389 rfl ?_
      exact ih _ _ _ _ _ _ h54 _ _ ls wd (lv_sub hl [1, 2, 3, 4, 5, 0] rfl) hX
set_option maxRecDepth 100000 in
set_option maxHeartbeats 4000000 in
theorem w_X12_deal_b287 {p : Program} {l : Launch} {e : Env} {s : State} {m : MethodId} {args : Array Value} {below : List Frame} {meth : Method} {c : Code} {D : va_G} {ks : Nat → ClassId} {L : List Nat} {r : Int32} {h' : mh_H} (cx : mh_C p m c cX12_deal 14 s args RX12 meth D ks (mh_A L s.heap.size)) (hr : meth.sig.returnType = (some .int)) :
    ∀ (o0 : Nat) (x1 : Int32) (x2 : Int32) (x3 : Int32) (x4 : Int32) (x5 : Int32) (x6 : Int32) (h : mh_H) (H : Heap) (locs : List Loc) (ls : Array Slot), mh_W D ks L (mh_A L s.heap.size) s.heap h H locs → lv_has ls 14 [(0, .ref o0), (1, .int x1), (2, .int x2), (3, .int x3), (4, .int x4), (5, .int x5), (6, .int x6)] → f_X12_deal_b287 o0 x1 x2 x3 x4 x5 x6 h = some (r, h') → W p l e (mh_rm 4) s m args below meth c H locs 0 0 (MQ below (mh_Qi D ks L s.heap.size r h') args s 0 0 (mh_A L s.heap.size)) (F0 m 287 ls []) := by
  intro o0 x1 x2 x3 x4 x5 x6 h H locs ls wd hl hX
  have hx := cx.1.1
  have hb := cx.1.2.1
  unfold f_X12_deal_b287 at hX
  refine lv_aload_n hx hb dX12_deal_287 rfl (lv_at hl 0 rfl) ?_
  refine lv_iload_n hx hb dX12_deal_288 rfl (lv_at hl 1 rfl) ?_
  refine lv_iload_n hx hb dX12_deal_289 rfl (lv_at hl 2 rfl) ?_
  refine lv_aload_n hx hb dX12_deal_290 rfl (lv_at hl 0 rfl) ?_
  refine mh_getR cx wd fl_X12_90 dX12_deal_291 hX (fun a56 hX => ?_)
  refine lv_aload_n hx hb dX12_deal_294 rfl (lv_at hl 0 rfl) ?_
  refine mh_getR cx wd fl_X12_87 dX12_deal_295 hX (fun a57 hX => ?_)
  refine mh_callVI cx wd [.int x1, .int x2, .ref a56, .ref a57] (rfl : vwCl[12]? = some (RX12, TX12, 38)) yw_X12_fits vw_X12_282 rfl hl.1 rfl (Nat.le_of_ble_eq_true rfl) dX12_deal_298 ⟨Nat.le_of_ble_eq_true rfl, Nat.le_of_ble_eq_true rfl⟩ ⟨Nat.le_refl _, Nat.le_refl _⟩ (fun _ _ q => c_X12_fits q) hX (fun v59 h58 H locs wd hX => ?_)
  refine lv_if_eq (tgt := 334) hx hb dX12_deal_301 rfl (fun hc => (fun hX => ?_) ((mh_if hX).1 hc)) (fun hc => (fun hX => ?_) ((mh_if hX).2 hc))
  · exact w_X12_deal_b334 cx hr  h58 _ _ ls wd (lv_sub hl [] rfl) hX
  · refine lv_aload_n hx hb dX12_deal_304 rfl (lv_at hl 0 rfl) ?_
    refine lv_iload_n hx hb dX12_deal_305 rfl (lv_at hl 2 rfl) ?_
    refine lv_iload_n hx hb dX12_deal_306 rfl (lv_at hl 1 rfl) ?_
    refine lv_aload_n hx hb dX12_deal_307 rfl (lv_at hl 0 rfl) ?_
    refine mh_getR cx wd fl_X12_87 dX12_deal_308 hX (fun a60 hX => ?_)
    refine lv_aload_n hx hb dX12_deal_311 rfl (lv_at hl 0 rfl) ?_
    refine mh_getR cx wd fl_X12_90 dX12_deal_312 hX (fun a61 hX => ?_)
    refine mh_callVI cx wd [.int x2, .int x1, .ref a60, .ref a61] (rfl : vwCl[12]? = some (RX12, TX12, 38)) yw_X12_fits vw_X12_282 rfl hl.1 rfl (Nat.le_of_ble_eq_true rfl) dX12_deal_315 ⟨Nat.le_of_ble_eq_true rfl, Nat.le_of_ble_eq_true rfl⟩ ⟨Nat.le_refl _, Nat.le_refl _⟩ (fun _ _ q => c_X12_fits q) hX (fun v63 h62 H locs wd hX => ?_)
    refine lv_if_eq (tgt := 334) hx hb dX12_deal_318 rfl (fun hc => (fun hX => ?_) ((mh_if hX).1 hc)) (fun hc => (fun hX => ?_) ((mh_if hX).2 hc))
    · exact w_X12_deal_b334 cx hr  h62 _ _ ls wd (lv_sub hl [] rfl) hX
    · refine lv_aload_n hx hb dX12_deal_321 rfl (lv_at hl 0 rfl) ?_
      refine lv_iload_n hx hb dX12_deal_322 rfl (lv_at hl 2 rfl) ?_
      refine mh_callVI cx wd [.int x2] (rfl : vwCl[12]? = some (RX12, TX12, 38)) yw_X12_allOf vw_X12_263 rfl hl.1 rfl (Nat.le_of_ble_eq_true rfl) dX12_deal_323 ⟨Nat.le_of_ble_eq_true rfl, Nat.le_of_ble_eq_true rfl⟩ ⟨Nat.le_refl _, Nat.le_refl _⟩ (fun _ _ q => c_X12_allOf q) hX (fun v65 h64 H locs wd hX => ?_)
      refine lv_iload_n hx hb dX12_deal_326 rfl (lv_at hl 3 rfl) ?_
      refine lv_iadd hx hb dX12_deal_327 ?_
      refine lv_sipush (v := 20000) hx hb dX12_deal_328 (by decide) ?_
      refine lv_icmp_le (tgt := 337) hx hb dX12_deal_331 rfl (fun hc => (fun hX => ?_) ((mh_if hX).1 hc)) (fun hc => (fun hX => ?_) ((mh_if hX).2 hc))
      · refine lv_aload_n hx hb dX12_deal_337 rfl (lv_at hl 0 rfl) ?_
        refine mh_getR cx wd fl_X12_93 dX12_deal_338 hX (fun a66 hX => ?_)
        refine lv_astore (lv' := [(11, .ref a66), (0, .ref o0), (1, .int x1), (2, .int x2), (3, .int x3), (4, .int x4), (5, .int x5), (6, .int x6)]) hx hb dX12_deal_341 hl (Nat.le_of_ble_eq_true rfl) rfl (fun ls hl => ?_)
        refine lv_iconst (v := 0) hx hb dX12_deal_343 (by decide) ?_
        refine mh_topi hX (fun v67 hX => ?_)
        refine lv_istore (lv' := [(12, .int v67), (11, .ref a66), (0, .ref o0), (1, .int x1), (2, .int x2), (3, .int x3), (4, .int x4), (5, .int x5), (6, .int x6)]) hx hb dX12_deal_344 hl (Nat.le_of_ble_eq_true rfl) rfl (fun ls hl => ?_)
        exact w_X12_deal_b346 cx hr mh_fu _ _ _ _ _ _ h64 _ _ ls wd (lv_sub hl [2, 6, 7, 8, 1, 0] rfl) hX
      · exact w_X12_deal_b334 cx hr  h64 _ _ ls wd (lv_sub hl [] rfl) hX
set_option maxRecDepth 100000 in
set_option maxHeartbeats 4000000 in
theorem w_X12_deal_b181 {p : Program} {l : Launch} {e : Env} {s : State} {m : MethodId} {args : Array Value} {below : List Frame} {meth : Method} {c : Code} {D : va_G} {ks : Nat → ClassId} {L : List Nat} {r : Int32} {h' : mh_H} (cx : mh_C p m c cX12_deal 14 s args RX12 meth D ks (mh_A L s.heap.size)) (hr : meth.sig.returnType = (some .int)) :
    ∀ n : Nat, ∀ (o0 : Nat) (x1 : Int32) (x2 : Int32) (x3 : Int32) (x4 : Int32) (x5 : Int32) (x6 : Int32) (x9 : Int32) (x10 : Int32) (x11 : Int32) (h : mh_H) (H : Heap) (locs : List Loc) (ls : Array Slot), mh_W D ks L (mh_A L s.heap.size) s.heap h H locs → lv_has ls 14 [(0, .ref o0), (1, .int x1), (2, .int x2), (3, .int x3), (4, .int x4), (5, .int x5), (6, .int x6), (9, .int x9), (10, .int x10), (11, .int x11)] → f_X12_deal_b181 n o0 x1 x2 x3 x4 x5 x6 x9 x10 x11 h = some (r, h') → W p l e (mh_rm 4) s m args below meth c H locs 0 0 (MQ below (mh_Qi D ks L s.heap.size r h') args s 0 0 (mh_A L s.heap.size)) (F0 m 181 ls []) := by
  intro n
  induction n with
  | zero =>
    intro o0 x1 x2 x3 x4 x5 x6 x9 x10 x11 h H locs ls wd hl hX
    cases hX
  | succ n ih =>
    intro o0 x1 x2 x3 x4 x5 x6 x9 x10 x11 h H locs ls wd hl hX
    have hx := cx.1.1
    have hb := cx.1.2.1
    rw [f_X12_deal_b181] at hX
    refine lv_iload hx hb dX12_deal_181 (lv_at hl 9 rfl) ?_
    refine lv_if_le (tgt := 287) hx hb dX12_deal_183 rfl (fun hc => (fun hX => ?_) ((mh_if hX).1 hc)) (fun hc => (fun hX => ?_) ((mh_if hX).2 hc))
    · exact w_X12_deal_b287 cx hr _ _ _ _ _ _ _ h _ _ ls wd (lv_sub hl [0, 1, 2, 3, 4, 5, 6] rfl) hX
    · refine lv_aload_n hx hb dX12_deal_186 rfl (lv_at hl 0 rfl) ?_
      refine mh_getR cx wd fl_X12_9 dX12_deal_187 hX (fun a68 hX => ?_)
      refine lv_iload hx hb dX12_deal_190 (lv_at hl 6 rfl) ?_
      refine lv_iload hx hb dX12_deal_192 (lv_at hl 9 rfl) ?_
      refine lv_iadd hx hb dX12_deal_194 ?_
      refine mh_iald cx wd dX12_deal_195 hX (fun v69 hX => ?_)
      refine lv_istore (lv' := [(12, .int v69), (0, .ref o0), (1, .int x1), (2, .int x2), (3, .int x3), (4, .int x4), (5, .int x5), (6, .int x6), (9, .int x9), (10, .int x10), (11, .int x11)]) hx hb dX12_deal_196 hl (Nat.le_of_ble_eq_true rfl) rfl (fun ls hl => ?_)
      refine lv_aload_n hx hb dX12_deal_198 rfl (lv_at hl 1 rfl) ?_
      refine mh_getR cx wd fl_X12_9 dX12_deal_199 hX (fun a70 hX => ?_)
      refine lv_iload hx hb dX12_deal_202 (lv_at hl 7 rfl) ?_
      refine lv_bipush (v := 12) hx hb dX12_deal_204 (by decide) ?_
      refine lv_iadd hx hb dX12_deal_206 ?_
      refine lv_iload hx hb dX12_deal_207 (lv_at hl 10 rfl) ?_
      refine lv_iadd hx hb dX12_deal_209 ?_
      refine mh_iald cx wd dX12_deal_210 hX (fun v71 hX => ?_)
      refine lv_iload hx hb dX12_deal_211 (lv_at hl 8 rfl) ?_
      refine lv_iload hx hb dX12_deal_213 (lv_at hl 0 rfl) ?_
      obtain ⟨hz, hX⟩ := mh_nzk hX
      refine lv_idiv hx hb dX12_deal_215 hz ?_
      refine mh_mmin mh_Mok cx hl.1 km_X12_157 (Nat.le_of_ble_eq_true rfl) (Nat.le_of_ble_eq_true rfl) ⟨Nat.le_refl _, Nat.le_refl _⟩ dX12_deal_216 ?_
      refine mh_topi hX (fun v72 hX => ?_)
      refine lv_istore (lv' := [(13, .int v72), (12, .int v69), (0, .ref o0), (1, .int x1), (2, .int x2), (3, .int x3), (4, .int x4), (5, .int x5), (6, .int x6), (9, .int x9), (10, .int x10), (11, .int x11)]) hx hb dX12_deal_219 hl (Nat.le_of_ble_eq_true rfl) rfl (fun ls hl => ?_)
      exact w_X12_deal_b221 (f_X12_deal_b181 n) cx hr ih mh_fu _ _ _ _ _ _ _ _ _ _ _ _ h _ _ ls wd (lv_sub hl [2, 3, 4, 5, 6, 7, 8, 9, 10, 11, 1, 0] rfl) hX
set_option maxRecDepth 100000 in
set_option maxHeartbeats 4000000 in
theorem w_X12_deal_b159 {p : Program} {l : Launch} {e : Env} {s : State} {m : MethodId} {args : Array Value} {below : List Frame} {meth : Method} {c : Code} {D : va_G} {ks : Nat → ClassId} {L : List Nat} {r : Int32} {h' : mh_H} (cx : mh_C p m c cX12_deal 14 s args RX12 meth D ks (mh_A L s.heap.size)) (hr : meth.sig.returnType = (some .int)) :
    ∀ (o0 : Nat) (x1 : Int32) (x2 : Int32) (x3 : Int32) (x4 : Int32) (x5 : Int32) (x6 : Int32) (x7 : Int32) (x8 : Int32) (h : mh_H) (H : Heap) (locs : List Loc) (ls : Array Slot), mh_W D ks L (mh_A L s.heap.size) s.heap h H locs → lv_has ls 14 [(0, .ref o0), (1, .int x1), (2, .int x2), (3, .int x3), (4, .int x4), (5, .int x5), (6, .int x6), (7, .int x7), (8, .int x8)] → f_X12_deal_b159 o0 x1 x2 x3 x4 x5 x6 x7 x8 h = some (r, h') → W p l e (mh_rm 4) s m args below meth c H locs 0 0 (MQ below (mh_Qi D ks L s.heap.size r h') args s 0 0 (mh_A L s.heap.size)) (F0 m 159 ls []) := by
  intro o0 x1 x2 x3 x4 x5 x6 x7 x8 h H locs ls wd hl hX
  have hx := cx.1.1
  have hb := cx.1.2.1
  unfold f_X12_deal_b159 at hX
  refine lv_iload hx hb dX12_deal_159 (lv_at hl 7 rfl) ?_
  refine lv_iload_n hx hb dX12_deal_161 rfl (lv_at hl 3 rfl) ?_
  refine lv_isub hx hb dX12_deal_162 ?_
  refine mh_topi hX (fun v73 hX => ?_)
  refine lv_istore (lv' := [(9, .int v73), (0, .ref o0), (1, .int x1), (2, .int x2), (3, .int x3), (4, .int x4), (5, .int x5), (6, .int x6), (7, .int x7), (8, .int x8)]) hx hb dX12_deal_163 hl (Nat.le_of_ble_eq_true rfl) rfl (fun ls hl => ?_)
  refine lv_iload hx hb dX12_deal_165 (lv_at hl 5 rfl) ?_
  refine lv_iload hx hb dX12_deal_167 (lv_at hl 9 rfl) ?_
  refine lv_isub hx hb dX12_deal_169 ?_
  refine mh_topi hX (fun v74 hX => ?_)
  refine lv_istore (lv' := [(10, .int v74), (9, .int v73), (0, .ref o0), (1, .int x1), (2, .int x2), (3, .int x3), (4, .int x4), (5, .int x5), (6, .int x6), (7, .int x7), (8, .int x8)]) hx hb dX12_deal_170 hl (Nat.le_of_ble_eq_true rfl) rfl (fun ls hl => ?_)
  refine lv_aload_n hx hb dX12_deal_172 rfl (lv_at hl 2 rfl) ?_
  refine mh_getR cx wd fl_X12_9 dX12_deal_173 hX (fun a75 hX => ?_)
  refine lv_iload hx hb dX12_deal_176 (lv_at hl 8 rfl) ?_
  refine mh_iald cx wd dX12_deal_178 hX (fun v76 hX => ?_)
  refine lv_istore (lv' := [(11, .int v76), (10, .int v74), (9, .int v73), (0, .ref o0), (1, .int x1), (2, .int x2), (3, .int x3), (4, .int x4), (5, .int x5), (6, .int x6), (7, .int x7), (8, .int x8)]) hx hb dX12_deal_179 hl (Nat.le_of_ble_eq_true rfl) rfl (fun ls hl => ?_)
  exact w_X12_deal_b181 cx hr mh_fu _ _ _ _ _ _ _ _ _ _ h _ _ ls wd (lv_sub hl [3, 4, 5, 6, 7, 8, 9, 2, 1, 0] rfl) hX
set_option maxRecDepth 100000 in
set_option maxHeartbeats 4000000 in
theorem w_X12_deal_b57 {p : Program} {l : Launch} {e : Env} {s : State} {m : MethodId} {args : Array Value} {below : List Frame} {meth : Method} {c : Code} {D : va_G} {ks : Nat → ClassId} {L : List Nat} {r : Int32} {h' : mh_H} (cx : mh_C p m c cX12_deal 14 s args RX12 meth D ks (mh_A L s.heap.size)) (hr : meth.sig.returnType = (some .int)) :
    ∀ n : Nat, ∀ (o0 : Nat) (x1 : Int32) (x2 : Int32) (x3 : Int32) (x4 : Int32) (x5 : Int32) (x6 : Int32) (x7 : Int32) (x8 : Int32) (x9 : Int32) (h : mh_H) (H : Heap) (locs : List Loc) (ls : Array Slot), mh_W D ks L (mh_A L s.heap.size) s.heap h H locs → lv_has ls 14 [(0, .ref o0), (1, .int x1), (2, .int x2), (3, .int x3), (4, .int x4), (5, .int x5), (6, .int x6), (7, .int x7), (8, .int x8), (9, .int x9)] → f_X12_deal_b57 n o0 x1 x2 x3 x4 x5 x6 x7 x8 x9 h = some (r, h') → W p l e (mh_rm 4) s m args below meth c H locs 0 0 (MQ below (mh_Qi D ks L s.heap.size r h') args s 0 0 (mh_A L s.heap.size)) (F0 m 57 ls []) := by
  intro n
  induction n with
  | zero =>
    intro o0 x1 x2 x3 x4 x5 x6 x7 x8 x9 h H locs ls wd hl hX
    cases hX
  | succ n ih =>
    intro o0 x1 x2 x3 x4 x5 x6 x7 x8 x9 h H locs ls wd hl hX
    have hx := cx.1.1
    have hb := cx.1.2.1
    rw [f_X12_deal_b57] at hX
    refine lv_iload hx hb dX12_deal_57 (lv_at hl 9 rfl) ?_
    refine lv_if_le (tgt := 159) hx hb dX12_deal_59 rfl (fun hc => (fun hX => ?_) ((mh_if hX).1 hc)) (fun hc => (fun hX => ?_) ((mh_if hX).2 hc))
    · exact w_X12_deal_b159 cx hr _ _ _ _ _ _ _ _ _ h _ _ ls wd (lv_sub hl [0, 1, 2, 3, 4, 5, 6, 7, 8] rfl) hX
    · refine lv_aload_n hx hb dX12_deal_62 rfl (lv_at hl 0 rfl) ?_
      refine mh_getR cx wd fl_X12_9 dX12_deal_63 hX (fun a77 hX => ?_)
      refine lv_iload hx hb dX12_deal_66 (lv_at hl 5 rfl) ?_
      refine lv_iload hx hb dX12_deal_68 (lv_at hl 9 rfl) ?_
      refine lv_iadd hx hb dX12_deal_70 ?_
      refine mh_iald cx wd dX12_deal_71 hX (fun v78 hX => ?_)
      refine lv_istore (lv' := [(10, .int v78), (0, .ref o0), (1, .int x1), (2, .int x2), (3, .int x3), (4, .int x4), (5, .int x5), (6, .int x6), (7, .int x7), (8, .int x8), (9, .int x9)]) hx hb dX12_deal_72 hl (Nat.le_of_ble_eq_true rfl) rfl (fun ls hl => ?_)
      refine lv_aload_n hx hb dX12_deal_74 rfl (lv_at hl 1 rfl) ?_
      refine mh_getR cx wd fl_X12_9 dX12_deal_75 hX (fun a79 hX => ?_)
      refine lv_iload hx hb dX12_deal_78 (lv_at hl 6 rfl) ?_
      refine lv_bipush (v := 12) hx hb dX12_deal_80 (by decide) ?_
      refine lv_iadd hx hb dX12_deal_82 ?_
      refine lv_iload hx hb dX12_deal_83 (lv_at hl 10 rfl) ?_
      refine lv_iadd hx hb dX12_deal_85 ?_
      refine mh_iald cx wd dX12_deal_86 hX (fun v80 hX => ?_)
      refine lv_istore (lv' := [(11, .int v80), (10, .int v78), (0, .ref o0), (1, .int x1), (2, .int x2), (3, .int x3), (4, .int x4), (5, .int x5), (6, .int x6), (7, .int x7), (8, .int x8), (9, .int x9)]) hx hb dX12_deal_87 hl (Nat.le_of_ble_eq_true rfl) rfl (fun ls hl => ?_)
      exact w_X12_deal_b89 (f_X12_deal_b57 n) cx hr ih mh_fu _ _ _ _ _ _ _ _ _ _ _ _ h _ _ ls wd (lv_sub hl [2, 3, 4, 5, 6, 7, 8, 9, 10, 11, 1, 0] rfl) hX
set_option maxRecDepth 100000 in
set_option maxHeartbeats 4000000 in
theorem w_X12_deal_e {p : Program} {l : Launch} {e : Env} {s : State} {m : MethodId} {args : Array Value} {below : List Frame} {meth : Method} {c : Code} {D : va_G} {ks : Nat → ClassId} {L : List Nat} {r : Int32} {h' : mh_H} (cx : mh_C p m c cX12_deal 14 s args RX12 meth D ks (mh_A L s.heap.size)) (hr : meth.sig.returnType = (some .int)) :
    ∀ (o0 : Nat) (x1 : Int32) (x2 : Int32) (x3 : Int32) (h : mh_H) (H : Heap) (locs : List Loc) (ls : Array Slot), mh_W D ks L (mh_A L s.heap.size) s.heap h H locs → lv_has ls 14 [(0, .ref o0), (1, .int x1), (2, .int x2), (3, .int x3)] → f_X12_deal_e o0 x1 x2 x3 h = some (r, h') → W p l e (mh_rm 4) s m args below meth c H locs 0 0 (MQ below (mh_Qi D ks L s.heap.size r h') args s 0 0 (mh_A L s.heap.size)) (F0 m 0 ls []) := by
  intro o0 x1 x2 x3 h H locs ls wd hl hX
  have hx := cx.1.1
  have hb := cx.1.2.1
  unfold f_X12_deal_e at hX
  refine lv_aload_n hx hb dX12_deal_0 rfl (lv_at hl 0 rfl) ?_
  refine lv_iconst (v := 0) hx hb dX12_deal_1 (by decide) ?_
  refine mh_putI cx wd fp_X12_96 dX12_deal_2 hX (fun h81 H locs wd hX => ?_)
  refine lv_aload_n hx hb dX12_deal_5 rfl (lv_at hl 0 rfl) ?_
  refine lv_iload_n hx hb dX12_deal_6 rfl (lv_at hl 1 rfl) ?_
  refine lv_iload_n hx hb dX12_deal_7 rfl (lv_at hl 2 rfl) ?_
  refine lv_iload_n hx hb dX12_deal_8 rfl (lv_at hl 3 rfl) ?_
  refine mh_callVI cx wd [.int x1, .int x2, .int x3] (rfl : vwCl[12]? = some (RX12, TX12, 38)) yw_X12_change vw_X12_278 rfl hl.1 rfl (Nat.le_of_ble_eq_true rfl) dX12_deal_9 ⟨Nat.le_of_ble_eq_true rfl, Nat.le_of_ble_eq_true rfl⟩ ⟨Nat.le_refl _, Nat.le_refl _⟩ (fun _ _ q => c_X12_change q) hX (fun v83 h82 H locs wd hX => ?_)
  refine lv_istore (lv' := [(4, .int v83), (0, .ref o0), (1, .int x1), (2, .int x2), (3, .int x3)]) hx hb dX12_deal_12 hl (Nat.le_of_ble_eq_true rfl) rfl (fun ls hl => ?_)
  refine lv_aload_n hx hb dX12_deal_14 rfl (lv_at hl 1 rfl) ?_
  refine mh_getI cx wd fl_X12_96 dX12_deal_15 hX (fun v84 hX => ?_)
  refine lv_if_ne (tgt := 27) hx hb dX12_deal_18 rfl (fun hc => (fun hX => ?_) ((mh_if hX).2 hc)) (fun hc => (fun hX => ?_) ((mh_if hX).1 hc))
  · exact w_X12_deal_b27 cx hr _ h82 _ _ ls wd (lv_sub hl [0] rfl) hX
  · refine lv_iload hx hb dX12_deal_21 (lv_at hl 0 rfl) ?_
    refine lv_iconst (v := (-1)) hx hb dX12_deal_23 (by decide) ?_
    refine lv_icmp_ne (tgt := 30) hx hb dX12_deal_24 rfl (fun hc => (fun hX => ?_) ((mh_if hX).2 hc)) (fun hc => (fun hX => ?_) ((mh_if hX).1 hc))
    · refine lv_iload_n hx hb dX12_deal_30 rfl (lv_at hl 2 rfl) ?_
      refine mh_callSI cx wd [.int x1] yw_X12_purseAt sw_X12_260 rfl hl.1 rfl (Nat.le_of_ble_eq_true rfl) dX12_deal_31 ⟨Nat.le_of_ble_eq_true rfl, Nat.le_of_ble_eq_true rfl⟩ ⟨Nat.le_refl _, Nat.le_refl _⟩ (fun _ _ q => c_X12_purseAt q) hX (fun v86 h85 H locs wd hX => ?_)
      refine lv_istore (lv' := [(5, .int v86), (4, .int v83), (0, .ref o0), (1, .int x1), (2, .int x2), (3, .int x3)]) hx hb dX12_deal_34 hl (Nat.le_of_ble_eq_true rfl) rfl (fun ls hl => ?_)
      refine lv_iload_n hx hb dX12_deal_36 rfl (lv_at hl 4 rfl) ?_
      refine mh_callSI cx wd [.int x2] yw_X12_purseAt sw_X12_260 rfl hl.1 rfl (Nat.le_of_ble_eq_true rfl) dX12_deal_37 ⟨Nat.le_of_ble_eq_true rfl, Nat.le_of_ble_eq_true rfl⟩ ⟨Nat.le_refl _, Nat.le_refl _⟩ (fun _ _ q => c_X12_purseAt q) hX (fun v88 h87 H locs wd hX => ?_)
      refine lv_istore (lv' := [(6, .int v88), (5, .int v86), (4, .int v83), (0, .ref o0), (1, .int x1), (2, .int x2), (3, .int x3)]) hx hb dX12_deal_40 hl (Nat.le_of_ble_eq_true rfl) rfl (fun ls hl => ?_)
      refine lv_iconst (v := 0) hx hb dX12_deal_42 (by decide) ?_
      refine mh_topi hX (fun v89 hX => ?_)
      refine lv_istore (lv' := [(7, .int v89), (6, .int v88), (5, .int v86), (4, .int v83), (0, .ref o0), (1, .int x1), (2, .int x2), (3, .int x3)]) hx hb dX12_deal_43 hl (Nat.le_of_ble_eq_true rfl) rfl (fun ls hl => ?_)
      refine lv_iconst (v := 0) hx hb dX12_deal_45 (by decide) ?_
      refine mh_topi hX (fun v90 hX => ?_)
      refine lv_istore (lv' := [(8, .int v90), (7, .int v89), (6, .int v88), (5, .int v86), (4, .int v83), (0, .ref o0), (1, .int x1), (2, .int x2), (3, .int x3)]) hx hb dX12_deal_46 hl (Nat.le_of_ble_eq_true rfl) rfl (fun ls hl => ?_)
      refine lv_aload_n hx hb dX12_deal_48 rfl (lv_at hl 5 rfl) ?_
      refine mh_getR cx wd fl_X12_9 dX12_deal_49 hX (fun a91 hX => ?_)
      refine lv_iload hx hb dX12_deal_52 (lv_at hl 3 rfl) ?_
      refine mh_iald cx wd dX12_deal_54 hX (fun v92 hX => ?_)
      refine lv_istore (lv' := [(9, .int v92), (8, .int v90), (7, .int v89), (6, .int v88), (5, .int v86), (4, .int v83), (0, .ref o0), (1, .int x1), (2, .int x2), (3, .int x3)]) hx hb dX12_deal_55 hl (Nat.le_of_ble_eq_true rfl) rfl (fun ls hl => ?_)
      exact w_X12_deal_b57 cx hr mh_fu _ _ _ _ _ _ _ _ _ _ h87 _ _ ls wd (lv_sub hl [6, 7, 8, 9, 5, 4, 3, 2, 1, 0] rfl) hX
    · exact w_X12_deal_b27 cx hr _ h82 _ _ ls wd (lv_sub hl [0] rfl) hX
set_option maxRecDepth 100000 in
theorem c_X12_deal {l : Launch} {L : List Nat} {h h' : mh_H} {r : Int32} {o0 : Nat} {x1 : Int32} {x2 : Int32} {x3 : Int32} (hX : f_X12_deal_e o0 x1 x2 x3 h = some (r, h')) : mh_MI l yX12_deal (Cond.code yX12_deal cX12_deal 14 (some .int) :: mh_TB) (mh_rm 4) [.ref o0, .int x1, .int x2, .int x3] L h r h' :=
  mh_of (mc := 0) (ms := 0) (Qc := fun D ks sz => mh_Qi D ks L sz r h') (plainFor_of_name (by decide)) (Nat.le_of_ble_eq_true rfl) (fun p e s m below meth c D ks ls hr cx wd hl => by
    have hl : lv_has ls 14 [(0, .ref o0), (1, .int x1), (2, .int x2), (3, .int x3)] := hl
    exact w_X12_deal_e cx hr o0 x1 x2 x3 h _ _ ls wd hl hX)
