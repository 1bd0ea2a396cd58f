theorem fl_X12_226 : mh_FL RX12 226 12 22 := ⟨RX12, TX12, 38, rfl, by decide, uw_X12, mh_in 1238 (by decide +kernel) (by decide +kernel)⟩
theorem fl_X12_251 : mh_FL RX12 251 12 27 := ⟨RX12, TX12, 38, rfl, by decide, uw_X12, mh_in 1243 (by decide +kernel) (by decide +kernel)⟩
theorem fl_X12_254 : mh_FL RX12 254 12 26 := ⟨RX12, TX12, 38, rfl, by decide, uw_X12, mh_in 1242 (by decide +kernel) (by decide +kernel)⟩
theorem fl_X12_57 : mh_FL RX12 57 12 20 := ⟨RX12, TX12, 38, rfl, by decide, uw_X12, mh_in 1236 (by decide +kernel) (by decide +kernel)⟩
theorem fl_X12_60 : mh_FL RX12 60 12 21 := ⟨RX12, TX12, 38, rfl, by decide, uw_X12, mh_in 1237 (by decide +kernel) (by decide +kernel)⟩
theorem fl_X12_66 : mh_FL RX12 66 12 25 := ⟨RX12, TX12, 38, rfl, by decide, uw_X12, mh_in 1241 (by decide +kernel) (by decide +kernel)⟩
theorem fp_X12_226 : mh_FP RX12 226 12 22 .int := ⟨RX12, TX12, 38, tyX12, rfl, by decide, uw_X12, mh_in 1238 (by decide +kernel) (by decide +kernel), tyX12_ok, nmX12, rfl, by decide +kernel⟩
theorem fp_X12_242 : mh_FP RX12 242 12 28 .int := ⟨RX12, TX12, 38, tyX12, rfl, by decide, uw_X12, mh_in 1244 (by decide +kernel) (by decide +kernel), tyX12_ok, nmX12, rfl, by decide +kernel⟩
theorem fp_X12_245 : mh_FP RX12 245 12 23 .int := ⟨RX12, TX12, 38, tyX12, rfl, by decide, uw_X12, mh_in 1239 (by decide +kernel) (by decide +kernel), tyX12_ok, nmX12, rfl, by decide +kernel⟩
theorem fp_X12_251 : mh_FP RX12 251 12 27 .int := ⟨RX12, TX12, 38, tyX12, rfl, by decide, uw_X12, mh_in 1243 (by decide +kernel) (by decide +kernel), tyX12_ok, nmX12, rfl, by decide +kernel⟩
theorem fp_X12_254 : mh_FP RX12 254 12 26 .int := ⟨RX12, TX12, 38, tyX12, rfl, by decide, uw_X12, mh_in 1242 (by decide +kernel) (by decide +kernel), tyX12_ok, nmX12, rfl, by decide +kernel⟩
theorem kl_X12_236 : Cond.constantLong RX12 236 (200) ∈ mh_TB := mh_in 1545 (by decide +kernel) (by decide +kernel)
theorem vw_X12_229 : mh_Vw RX12 229 RX12 yX12_list := ⟨mh_in 1546 (by decide +kernel) (by decide +kernel), mh_in 1548 (by decide +kernel) (by decide +kernel), mh_in 51 (by decide +kernel) (by decide +kernel)⟩
theorem vw_X12_238 : mh_Vw RX12 238 RX12 yX12_differ := ⟨mh_in 1550 (by decide +kernel) (by decide +kernel), mh_in 1552 (by decide +kernel) (by decide +kernel), mh_in 52 (by decide +kernel) (by decide +kernel)⟩
theorem vw_X12_248 : mh_Vw RX12 248 RX12 yX12_trialStamps := ⟨mh_in 1572 (by decide +kernel) (by decide +kernel), mh_in 1574 (by decide +kernel) (by decide +kernel), mh_in 54 (by decide +kernel) (by decide +kernel)⟩
theorem vw_X12_257 : mh_Vw RX12 257 RX12 yX12_search := ⟨mh_in 1568 (by decide +kernel) (by decide +kernel), mh_in 1570 (by decide +kernel) (by decide +kernel), mh_in 53 (by decide +kernel) (by decide +kernel)⟩
theorem yw_X12_differ : mh_Yw yX12_differ cX12_differ 7 (some .int) 2 := ⟨mh_in 73 (by decide +kernel) (by decide +kernel), mh_in 1553 (by decide +kernel) (by decide +kernel), by decide +kernel, by decide +kernel, by decide +kernel⟩
theorem yw_X12_list : mh_Yw yX12_list cX12_list 6 none 3 := ⟨mh_in 73 (by decide +kernel) (by decide +kernel), mh_in 1549 (by decide +kernel) (by decide +kernel), by decide +kernel, by decide +kernel, by decide +kernel⟩
theorem yw_X12_search : mh_Yw yX12_search cX12_search 4 none 1 := ⟨mh_in 73 (by decide +kernel) (by decide +kernel), mh_in 1571 (by decide +kernel) (by decide +kernel), by decide +kernel, by decide +kernel, by decide +kernel⟩
theorem yw_X12_trialStamps : mh_Yw yX12_trialStamps cX12_trialStamps 5 (some .int) 1 := ⟨mh_in 73 (by decide +kernel) (by decide +kernel), mh_in 1575 (by decide +kernel) (by decide +kernel), by decide +kernel, by decide +kernel, by decide +kernel⟩
def f_X12_list_b56 (rc : Nat → Int32 → Int32 → Int32 → mh_H → Option mh_H) (h : mh_H) : Option mh_H :=
  some h
def f_X12_list_b46 (rc : Nat → Int32 → Int32 → Int32 → mh_H → Option mh_H) (k56 : mh_H → Option mh_H) (o0 : Nat) (h : mh_H) : Option mh_H :=
  (mh_gI h o0 12 22).bind fun v1 =>
  (mh_pI h o0 12 22 (v1 + (1 : Int32))).bind fun h2 =>
  k56 h2
def f_X12_list_b11 (rc : Nat → Int32 → Int32 → Int32 → mh_H → Option mh_H) (k56 : mh_H → Option mh_H) : Nat → Nat → Int32 → mh_H → Option mh_H
  | 0, _, _, _ => none
  | n + 1, o0, x4, h =>
    if (12 : Int32) ≤ x4 then (
    f_X12_list_b46 rc k56 o0 h) else
    (mh_gR h o0 12 19).bind fun a3 =>
    (mh_gI h o0 12 22).bind fun v4 =>
    (mh_gR h o0 12 20).bind fun a5 =>
    (mh_aI h a5 0 x4).bind fun v6 =>
    (mh_sI h a3 (((12 : Int32) * v4) + x4) v6).bind fun h7 =>
    mh_nm (x4 + Int32.ofInt (1)) fun v8 =>
    f_X12_list_b11 rc k56 n o0 v8 h7
def f_X12_list_b127 (rc : Nat → Int32 → Int32 → Int32 → mh_H → Option mh_H) (k76 : Nat → Int32 → Int32 → Int32 → Int32 → Int32 → mh_H → Option mh_H) (o0 : Nat) (x1 : Int32) (x2 : Int32) (x3 : Int32) (x4 : Int32) (x5 : Int32) (h : mh_H) : Option mh_H :=
  mh_nm (x5 + Int32.ofInt (-1)) fun v9 =>
  k76 o0 x1 x2 x3 x4 v9 h
def f_X12_list_b133 (rc : Nat → Int32 → Int32 → Int32 → mh_H → Option mh_H) (o0 : Nat) (x2 : Int32) (h : mh_H) : Option mh_H :=
  (mh_gR h o0 12 20).bind fun a10 =>
  (mh_sI h a10 (x2 - (1 : Int32)) (0 : Int32)).bind fun h11 =>
  some h11
def f_X12_list_b76 (rc : Nat → Int32 → Int32 → Int32 → mh_H → Option mh_H) : Nat → Nat → Int32 → Int32 → Int32 → Int32 → Int32 → mh_H → Option mh_H
  | 0, _, _, _, _, _, _, _ => none
  | n + 1, o0, x1, x2, x3, x4, x5, h =>
    if x5 < 0 then (
    f_X12_list_b133 rc o0 x2 h) else
    (mh_gR h o0 12 20).bind fun a12 =>
    (mh_sI h a12 (x2 - (1 : Int32)) x5).bind fun h13 =>
    (mh_gR h13 o0 12 12).bind fun a14 =>
    (mh_aR h13 a14 6 (x2 - (1 : Int32))).bind fun a15 =>
    (mh_aJ h13 a15 (x3 - (x5 * x4))).bind fun w16 =>
    if (lg_cmp w16 (0 : Int64)) ≤ 0 then (
    f_X12_list_b127 rc (f_X12_list_b76 rc n) o0 x1 x2 x3 x4 x5 h13) else
    (mh_cal h13 o0 12 (rc o0 x1 (x2 - (1 : Int32)) (x3 - (x5 * x4)) h13)).bind fun h17 =>
    f_X12_list_b127 rc (f_X12_list_b76 rc n) o0 x1 x2 x3 x4 x5 h17
def f_X12_list_e (rc : Nat → Int32 → Int32 → Int32 → mh_H → Option mh_H) (o0 : Nat) (x1 : Int32) (x2 : Int32) (x3 : Int32) (h : mh_H) : Option mh_H :=
  if x2 = 0 then (
  if x3 = 0 then (
  mh_nm (0 : Int32) fun v23 =>
  f_X12_list_b11 rc (f_X12_list_b56 rc) mh_fu o0 v23 h) else
  f_X12_list_b56 rc h) else
  (mh_gR h o0 12 1).bind fun a18 =>
  mh_b2 (f_X12_mintAt_e x1 h) fun v20 h19 =>
  (mh_aI h19 a18 0 (v20 + x2)).bind fun v21 =>
  mh_nz (v21 = 0) <|
  mh_nm (x3 / v21) fun v22 =>
  f_X12_list_b76 rc mh_fu o0 x1 x2 x3 v21 v22 h19
def f_X12_list_d : Nat → Nat → Int32 → Int32 → Int32 → mh_H → Option mh_H
  | 0, _, _, _, _, _ => none
  | d + 1, o0, x1, x2, x3, h => f_X12_list_e (f_X12_list_d d) o0 x1 x2 x3 h
set_option maxRecDepth 100000 in
set_option maxHeartbeats 4000000 in
theorem w_X12_list_b56 {p : Program} {l : Launch} {e : Env} {s : State} {m : MethodId} {args : Array Value} {below : List Frame} {meth : Method} {c : Code} {D : va_G} {ks : Nat → ClassId} {L : List Nat} {h' : mh_H} (rc : Nat → Int32 → Int32 → Int32 → mh_H → Option mh_H) (cx : mh_C p m c cX12_list 6 s args RX12 meth D ks (mh_A L s.heap.size)) {dv : Nat} (hrc : ∀ {o0 : Nat} {x1 : Int32} {x2 : Int32} {x3 : Int32} {h h2 : mh_H}, rc o0 x1 x2 x3 h = some h2 → mh_MV l yX12_list (Cond.code yX12_list cX12_list 6 none :: mh_TB) (mh_rm (dv + 1)) [.ref o0, .int x1, .int x2, .int x3] L h h2) (hr : meth.sig.returnType = none) :
    ∀ (h : mh_H) (H : Heap) (locs : List Loc) (ls : Array Slot), mh_W D ks L (mh_A L s.heap.size) s.heap h H locs → lv_has ls 6 [] → f_X12_list_b56 rc  h = some h' → W p l e (mh_rm (dv + 2)) s m args below meth c H locs 0 0 (MQ below (mh_Qv D ks L s.heap.size h') args s 0 0 (mh_A L s.heap.size)) (F0 m 56 ls []) := by
  intro  h H locs ls wd hl hX
  have hx := cx.1.1
  have hb := cx.1.2.1
  unfold f_X12_list_b56 at hX
  exact mh_vret cx wd hr hX dX12_list_56
set_option maxRecDepth 100000 in
set_option maxHeartbeats 4000000 in
theorem w_X12_list_b46 {p : Program} {l : Launch} {e : Env} {s : State} {m : MethodId} {args : Array Value} {below : List Frame} {meth : Method} {c : Code} {D : va_G} {ks : Nat → ClassId} {L : List Nat} {h' : mh_H} (rc : Nat → Int32 → Int32 → Int32 → mh_H → Option mh_H) (k56 : mh_H → Option mh_H) (cx : mh_C p m c cX12_list 6 s args RX12 meth D ks (mh_A L s.heap.size)) {dv : Nat} (hrc : ∀ {o0 : Nat} {x1 : Int32} {x2 : Int32} {x3 : Int32} {h h2 : mh_H}, rc o0 x1 x2 x3 h = some h2 → mh_MV l yX12_list (Cond.code yX12_list cX12_list 6 none :: mh_TB) (mh_rm (dv + 1)) [.ref o0, .int x1, .int x2, .int x3] L h h2) (hr : meth.sig.returnType = none)
    (hk56 : ∀ (h : mh_H) (H : Heap) (locs : List Loc) (ls : Array Slot), mh_W D ks L (mh_A L s.heap.size) s.heap h H locs → lv_has ls 6 [] → k56  h = some h' → W p l e (mh_rm (dv + 2)) s m args below meth c H locs 0 0 (MQ below (mh_Qv D ks L s.heap.size h') args s 0 0 (mh_A L s.heap.size)) (F0 m 56 ls [])) :
    ∀ (o0 : Nat) (h : mh_H) (H : Heap) (locs : List Loc) (ls : Array Slot), mh_W D ks L (mh_A L s.heap.size) s.heap h H locs → lv_has ls 6 [(0, .ref o0)] → f_X12_list_b46 rc k56 o0 h = some h' → W p l e (mh_rm (dv + 2)) s m args below meth c H locs 0 0 (MQ below (mh_Qv D ks L s.heap.size h') args s 0 0 (mh_A L s.heap.size)) (F0 m 46 ls []) := by
  intro o0 h H locs ls wd hl hX
  have hx := cx.1.1
  have hb := cx.1.2.1
  unfold f_X12_list_b46 at hX
  refine lv_aload_n hx hb dX12_list_46 rfl (lv_at hl 0 rfl) ?_
  refine lv_dup hx hb dX12_list_47 rfl ?_
  refine mh_getI cx wd fl_X12_226 dX12_list_48 hX (fun v1 hX => ?_)
  refine lv_iconst (v := 1) hx hb dX12_list_51 (by decide) ?_
  refine lv_iadd hx hb dX12_list_52 ?_
  refine mh_putI cx wd fp_X12_226 dX12_list_53 hX (fun h2 H locs wd hX => ?_)
  exact hk56  h2 _ _ ls wd (lv_sub hl [] rfl) hX
set_option maxRecDepth 100000 in
set_option maxHeartbeats 4000000 in
theorem w_X12_list_b11 {p : Program} {l : Launch} {e : Env} {s : State} {m : MethodId} {args : Array Value} {below : List Frame} {meth : Method} {c : Code} {D : va_G} {ks : Nat → ClassId} {L : List Nat} {h' : mh_H} (rc : Nat → Int32 → Int32 → Int32 → mh_H → Option mh_H) (k56 : mh_H → Option mh_H) (cx : mh_C p m c cX12_list 6 s args RX12 meth D ks (mh_A L s.heap.size)) {dv : Nat} (hrc : ∀ {o0 : Nat} {x1 : Int32} {x2 : Int32} {x3 : Int32} {h h2 : mh_H}, rc o0 x1 x2 x3 h = some h2 → mh_MV l yX12_list (Cond.code yX12_list cX12_list 6 none :: mh_TB) (mh_rm (dv + 1)) [.ref o0, .int x1, .int x2, .int x3] L h h2) (hr : meth.sig.returnType = none)
    (hk56 : ∀ (h : mh_H) (H : Heap) (locs : List Loc) (ls : Array Slot), mh_W D ks L (mh_A L s.heap.size) s.heap h H locs → lv_has ls 6 [] → k56  h = some h' → W p l e (mh_rm (dv + 2)) s m args below meth c H locs 0 0 (MQ below (mh_Qv D ks L s.heap.size h') args s 0 0 (mh_A L s.heap.size)) (F0 m 56 ls [])) :
    ∀ n : Nat, ∀ (o0 : Nat) (x4 : Int32) (h : mh_H) (H : Heap) (locs : List Loc) (ls : Array Slot), mh_W D ks L (mh_A L s.heap.size) s.heap h H locs → lv_has ls 6 [(0, .ref o0), (4, .int x4)] → f_X12_list_b11 rc k56 n o0 x4 h = some h' → W p l e (mh_rm (dv + 2)) s m args below meth c H locs 0 0 (MQ below (mh_Qv D ks L s.heap.size h') args s 0 0 (mh_A L s.heap.size)) (F0 m 11 ls []) := by
  intro n
  induction n with
  | zero =>
    intro o0 x4 h H locs ls wd hl hX
    cases hX
  | succ n ih =>
    intro o0 x4 h H locs ls wd hl hX
    have hx := cx.1.1
    have hb := cx.1.2.1
    rw [f_X12_list_b11] at hX
    refine lv_iload hx hb dX12_list_11 (lv_at hl 1 rfl) ?_
    refine lv_bipush (v := 12) hx hb dX12_list_13 (by decide) ?_
    refine lv_icmp_ge (tgt := 46) hx hb dX12_list_15 rfl (fun hc => (fun hX => ?_) ((mh_if hX).1 hc)) (fun hc => (fun hX => ?_) ((mh_if hX).2 hc))
    · exact w_X12_list_b46 rc k56 cx hrc hr hk56 _ h _ _ ls wd (lv_sub hl [0] rfl) hX
    · refine lv_aload_n hx hb dX12_list_18 rfl (lv_at hl 0 rfl) ?_
      refine mh_getR cx wd fl_X12_54 dX12_list_19 hX (fun a3 hX => ?_)
      refine lv_bipush (v := 12) hx hb dX12_list_22 (by decide) ?_
      refine lv_aload_n hx hb dX12_list_24 rfl (lv_at hl 0 rfl) ?_
      refine mh_getI cx wd fl_X12_226 dX12_list_25 hX (fun v4 hX => ?_)
      refine lv_imul hx hb dX12_list_28 ?_
      refine lv_iload hx hb dX12_list_29 (lv_at hl 1 rfl) ?_
      refine lv_iadd hx hb dX12_list_31 ?_
      refine lv_aload_n hx hb dX12_list_32 rfl (lv_at hl 0 rfl) ?_
      refine mh_getR cx wd fl_X12_57 dX12_list_33 hX (fun a5 hX => ?_)
      refine lv_iload hx hb dX12_list_36 (lv_at hl 1 rfl) ?_
      refine mh_iald cx wd dX12_list_38 hX (fun v6 hX => ?_)
      refine mh_iast cx wd dX12_list_39 hX (fun h7 H locs wd hX => ?_)
      obtain ⟨v8, ev8, hX⟩ := mh_nmx hX
      refine lv_iinc (k := 1) (v := v8) (lv' := [(4, .int v8), (0, .ref o0)]) hx hb dX12_list_40 hl rfl ev8 (Nat.le_of_ble_eq_true rfl) rfl (fun ls hl => ?_)
      refine lv_goto (tgt := 11) hx hb dX12_list_43 rfl ?_
      exact ih _ _ h7 _ _ ls wd (lv_sub hl [1, 0] rfl) hX
set_option maxRecDepth 100000 in
set_option maxHeartbeats 4000000 in
theorem w_X12_list_b127 {p : Program} {l : Launch} {e : Env} {s : State} {m : MethodId} {args : Array Value} {below : List Frame} {meth : Method} {c : Code} {D : va_G} {ks : Nat → ClassId} {L : List Nat} {h' : mh_H} (rc : Nat → Int32 → Int32 → Int32 → mh_H → Option mh_H) (k76 : Nat → Int32 → Int32 → Int32 → Int32 → Int32 → mh_H → Option mh_H) (cx : mh_C p m c cX12_list 6 s args RX12 meth D ks (mh_A L s.heap.size)) {dv : Nat} (hrc : ∀ {o0 : Nat} {x1 : Int32} {x2 : Int32} {x3 : Int32} {h h2 : mh_H}, rc o0 x1 x2 x3 h = some h2 → mh_MV l yX12_list (Cond.code yX12_list cX12_list 6 none :: mh_TB) (mh_rm (dv + 1)) [.ref o0, .int x1, .int x2, .int x3] L h h2) (hr : meth.sig.returnType = none)
    (hk76 : ∀ (o0 : Nat) (x1 : Int32) (x2 : Int32) (x3 : Int32) (x4 : Int32) (x5 : Int32) (h : mh_H) (H : Heap) (locs : List Loc) (ls : Array Slot), mh_W D ks L (mh_A L s.heap.size) s.heap h H locs → lv_has ls 6 [(0, .ref o0), (1, .int x1), (2, .int x2), (3, .int x3), (4, .int x4), (5, .int x5)] → k76 o0 x1 x2 x3 x4 x5 h = some h' → W p l e (mh_rm (dv + 2)) s m args below meth c H locs 0 0 (MQ below (mh_Qv D ks L s.heap.size h') args s 0 0 (mh_A L s.heap.size)) (F0 m 76 ls [])) :
    ∀ (o0 : Nat) (x1 : Int32) (x2 : Int32) (x3 : Int32) (x4 : Int32) (x5 : Int32) (h : mh_H) (H : Heap) (locs : List Loc) (ls : Array Slot), mh_W D ks L (mh_A L s.heap.size) s.heap h H locs → lv_has ls 6 [(0, .ref o0), (1, .int x1), (2, .int x2), (3, .int x3), (4, .int x4), (5, .int x5)] → f_X12_list_b127 rc k76 o0 x1 x2 x3 x4 x5 h = some h' → W p l e (mh_rm (dv + 2)) s m args below meth c H locs 0 0 (MQ below (mh_Qv D ks L s.heap.size h') args s 0 0 (mh_A L s.heap.size)) (F0 m 127 ls []) := by
  intro o0 x1 x2 x3 x4 x5 h H locs ls wd hl hX
  have hx := cx.1.1
  have hb := cx.1.2.1
  unfold f_X12_list_b127 at hX
  obtain ⟨v9, ev9, hX⟩ := mh_nmx hX
  refine lv_iinc (k := 5) (v := v9) (lv' := [(5, .int v9), (0, .ref o0), (1, .int x1), (2, .int x2), (3, .int x3), (4, .int x4)]) hx hb dX12_list_127 hl rfl ev9 (Nat.le_of_ble_eq_true rfl) rfl (fun ls hl => ?_)
  refine lv_goto (tgt := 76) hx hb dX12_list_130 rfl ?_
  exact hk76 _ _ _ _ _ _ h _ _ ls wd (lv_sub hl [1, 2, 3, 4, 5, 0] rfl) hX
set_option maxRecDepth 100000 in
set_option maxHeartbeats 4000000 in
theorem w_X12_list_b133 {p : Program} {l : Launch} {e : Env} {s : State} {m : MethodId} {args : Array Value} {below : List Frame} {meth : Method} {c : Code} {D : va_G} {ks : Nat → ClassId} {L : List Nat} {h' : mh_H} (rc : Nat → Int32 → Int32 → Int32 → mh_H → Option mh_H) (cx : mh_C p m c cX12_list 6 s args RX12 meth D ks (mh_A L s.heap.size)) {dv : Nat} (hrc : ∀ {o0 : Nat} {x1 : Int32} {x2 : Int32} {x3 : Int32} {h h2 : mh_H}, rc o0 x1 x2 x3 h = some h2 → mh_MV l yX12_list (Cond.code yX12_list cX12_list 6 none :: mh_TB) (mh_rm (dv + 1)) [.ref o0, .int x1, .int x2, .int x3] L h h2) (hr : meth.sig.returnType = none) :
    ∀ (o0 : Nat) (x2 : Int32) (h : mh_H) (H : Heap) (locs : List Loc) (ls : Array Slot), mh_W D ks L (mh_A L s.heap.size) s.heap h H locs → lv_has ls 6 [(0, .ref o0), (2, .int x2)] → f_X12_list_b133 rc o0 x2 h = some h' → W p l e (mh_rm (dv + 2)) s m args below meth c H locs 0 0 (MQ below (mh_Qv D ks L s.heap.size h') args s 0 0 (mh_A L s.heap.size)) (F0 m 133 ls []) := by
  intro o0 x2 h H locs ls wd hl hX
  have hx := cx.1.1
  have hb := cx.1.2.1
  unfold f_X12_list_b133 at hX
  refine lv_aload_n hx hb dX12_list_133 rfl (lv_at hl 0 rfl) ?_
  refine mh_getR cx wd fl_X12_57 dX12_list_134 hX (fun a10 hX => ?_)
  refine lv_iload_n hx hb dX12_list_137 rfl (lv_at hl 1 rfl) ?_
  refine lv_iconst (v := 1) hx hb dX12_list_138 (by decide) ?_
  refine lv_isub hx hb dX12_list_139 ?_
  refine lv_iconst (v := 0) hx hb dX12_list_140 (by decide) ?_
  refine mh_iast cx wd dX12_list_141 hX (fun h11 H locs wd hX => ?_)
  exact mh_vret cx wd hr hX dX12_list_142
set_option maxRecDepth 100000 in
set_option maxHeartbeats 4000000 in
theorem w_X12_list_b76 {p : Program} {l : Launch} {e : Env} {s : State} {m : MethodId} {args : Array Value} {below : List Frame} {meth : Method} {c : Code} {D : va_G} {ks : Nat → ClassId} {L : List Nat} {h' : mh_H} (rc : Nat → Int32 → Int32 → Int32 → mh_H → Option mh_H) (cx : mh_C p m c cX12_list 6 s args RX12 meth D ks (mh_A L s.heap.size)) {dv : Nat} (hrc : ∀ {o0 : Nat} {x1 : Int32} {x2 : Int32} {x3 : Int32} {h h2 : mh_H}, rc o0 x1 x2 x3 h = some h2 → mh_MV l yX12_list (Cond.code yX12_list cX12_list 6 none :: mh_TB) (mh_rm (dv + 1)) [.ref o0, .int x1, .int x2, .int x3] L h h2) (hr : meth.sig.returnType = none) :
    ∀ n : Nat, ∀ (o0 : Nat) (x1 : Int32) (x2 : Int32) (x3 : Int32) (x4 : Int32) (x5 : Int32) (h : mh_H) (H : Heap) (locs : List Loc) (ls : Array Slot), mh_W D ks L (mh_A L s.heap.size) s.heap h H locs → lv_has ls 6 [(0, .ref o0), (1, .int x1), (2, .int x2), (3, .int x3), (4, .int x4), (5, .int x5)] → f_X12_list_b76 rc n o0 x1 x2 x3 x4 x5 h = some h' → W p l e (mh_rm (dv + 2)) s m args below meth c H locs 0 0 (MQ below (mh_Qv D ks L s.heap.size h') args s 0 0 (mh_A L s.heap.size)) (F0 m 76 ls []) := by
  intro n
  induction n with
  | zero =>
    intro o0 x1 x2 x3 x4 x5 h H locs ls wd hl hX
    cases hX
  | succ n ih =>
    intro o0 x1 x2 x3 x4 x5 h H locs ls wd hl hX
    have hx := cx.1.1
    have hb := cx.1.2.1
    rw [f_X12_list_b76] at hX
    refine lv_iload hx hb dX12_list_76 (lv_at hl 5 rfl) ?_
    refine lv_if_lt (tgt := 133) hx hb dX12_list_78 rfl (fun hc => (fun hX => ?_) ((mh_if hX).1 hc)) (fun hc => (fun hX => ?_) ((mh_if hX).2 hc))
    · exact w_X12_list_b133 rc cx hrc hr _ _ h _ _ ls wd (lv_sub hl [0, 2] rfl) hX
    · refine lv_aload_n hx hb dX12_list_81 rfl (lv_at hl 0 rfl) ?_
      refine mh_getR cx wd fl_X12_57 dX12_list_82 hX (fun a12 hX => ?_)
      refine lv_iload_n hx hb dX12_list_85 rfl (lv_at hl 2 rfl) ?_
      refine lv_iconst (v := 1) hx hb dX12_list_86 (by decide) ?_
      refine lv_isub hx hb dX12_list_87 ?_
      refine lv_iload hx hb dX12_list_88 (lv_at hl 5 rfl) ?_
      refine mh_iast cx wd dX12_list_90 hX (fun h13 H locs wd hX => ?_)
      refine lv_aload_n hx hb dX12_list_91 rfl (lv_at hl 0 rfl) ?_
      refine mh_getR cx wd fl_X12_42 dX12_list_92 hX (fun a14 hX => ?_)
      refine lv_iload_n hx hb dX12_list_95 rfl (lv_at hl 2 rfl) ?_
      refine lv_iconst (v := 1) hx hb dX12_list_96 (by decide) ?_
      refine lv_isub hx hb dX12_list_97 ?_
      refine mh_aald cx wd 6 rfl rfl dX12_list_98 hX (fun a15 hX => ?_)
      refine lv_iload_n hx hb dX12_list_99 rfl (lv_at hl 3 rfl) ?_
      refine lv_iload hx hb dX12_list_100 (lv_at hl 5 rfl) ?_
      refine lv_iload hx hb dX12_list_102 (lv_at hl 4 rfl) ?_
      refine lv_imul hx hb dX12_list_104 ?_
      refine lv_isub hx hb dX12_list_105 ?_
      refine mh_lald cx wd dX12_list_106 hX (fun w16 hX => ?_)
      refine lv_lconst (v := 0) hx hb dX12_list_107 (by decide) ?_
      refine W.lcmp hx hb dX12_list_108 ?_
      refine lv_if_le (tgt := 127) hx hb dX12_list_109 rfl (fun hc => (fun hX => ?_) ((mh_if hX).1 hc)) (fun hc => (fun hX => ?_) ((mh_if hX).2 hc))
      · exact w_X12_list_b127 rc (f_X12_list_b76 rc n) cx hrc hr ih _ _ _ _ _ _ h13 _ _ ls wd (lv_sub hl [0, 1, 2, 3, 4, 5] rfl) hX
      · refine lv_aload_n hx hb dX12_list_112 rfl (lv_at hl 0 rfl) ?_
        refine lv_iload_n hx hb dX12_list_113 rfl (lv_at hl 1 rfl) ?_
        refine lv_iload_n hx hb dX12_list_114 rfl (lv_at hl 2 rfl) ?_
        refine lv_iconst (v := 1) hx hb dX12_list_115 (by decide) ?_
        refine lv_isub hx hb dX12_list_116 ?_
        refine lv_iload_n hx hb dX12_list_117 rfl (lv_at hl 3 rfl) ?_
        refine lv_iload hx hb dX12_list_118 (lv_at hl 5 rfl) ?_
        refine lv_iload hx hb dX12_list_120 (lv_at hl 4 rfl) ?_
        refine lv_imul hx hb dX12_list_122 ?_
        refine lv_isub hx hb dX12_list_123 ?_
        refine mh_callVV cx wd [.int x1, .int (x2 - (1 : Int32)), .int (x3 - (x5 * x4))] (rfl : vwCl[12]? = some (RX12, TX12, 38)) yw_X12_list vw_X12_229 rfl hl.1 rfl (Nat.le_of_ble_eq_true rfl) dX12_list_124 (by constructor <;> (dsimp only [mh_rm]; omega)) ⟨Nat.le_refl _, Nat.le_refl _⟩ (fun _ q => hrc q) hX (fun h17 H locs wd hX => ?_)
        exact w_X12_list_b127 rc (f_X12_list_b76 rc n) cx hrc hr ih _ _ _ _ _ _ h17 _ _ ls wd (lv_sub hl [0, 1, 2, 3, 4, 5] rfl) hX
set_option maxRecDepth 100000 in
set_option maxHeartbeats 4000000 in
theorem w_X12_list_e {p : Program} {l : Launch} {e : Env} {s : State} {m : MethodId} {args : Array Value} {below : List Frame} {meth : Method} {c : Code} {D : va_G} {ks : Nat → ClassId} {L : List Nat} {h' : mh_H} (rc : Nat → Int32 → Int32 → Int32 → mh_H → Option mh_H) (cx : mh_C p m c cX12_list 6 s args RX12 meth D ks (mh_A L s.heap.size)) {dv : Nat} (hrc : ∀ {o0 : Nat} {x1 : Int32} {x2 : Int32} {x3 : Int32} {h h2 : mh_H}, rc o0 x1 x2 x3 h = some h2 → mh_MV l yX12_list (Cond.code yX12_list cX12_list 6 none :: mh_TB) (mh_rm (dv + 1)) [.ref o0, .int x1, .int x2, .int x3] L h h2) (hr : meth.sig.returnType = none) :
    ∀ (o0 : Nat) (x1 : Int32) (x2 : Int32) (x3 : Int32) (h : mh_H) (H : Heap) (locs : List Loc) (ls : Array Slot), mh_W D ks L (mh_A L s.heap.size) s.heap h H locs → lv_has ls 6 [(0, .ref o0), (1, .int x1), (2, .int x2), (3, .int x3)] → f_X12_list_e rc o0 x1 x2 x3 h = some h' → W p l e (mh_rm (dv + 2)) s m args below meth c H locs 0 0 (MQ below (mh_Qv D ks L s.heap.size h') args s 0 0 (mh_A L s.heap.size)) (F0 m 0 ls []) := by
  intro o0 x1 x2 x3 h H locs ls wd hl hX
  have hx := cx.1.1
  have hb := cx.1.2.1
  unfold f_X12_list_e at hX
  refine lv_iload_n hx hb dX12_list_0 rfl (lv_at hl 2 rfl) ?_
  refine lv_if_ne (tgt := 57) hx hb dX12_list_1 rfl (fun hc => (fun hX => ?_) ((mh_if hX).2 hc)) (fun hc => (fun hX => ?_) ((mh_if hX).1 hc))
  · refine lv_aload_n hx hb dX12_list_57 rfl (lv_at hl 0 rfl) ?_
    refine mh_getR cx wd fl_X12_9 dX12_list_58 hX (fun a18 hX => ?_)
    refine lv_iload_n hx hb dX12_list_61 rfl (lv_at hl 1 rfl) ?_
    refine mh_callSI cx wd [.int x1] yw_X12_mintAt sw_X12_115 rfl hl.1 rfl (Nat.le_of_ble_eq_true rfl) dX12_list_62 (by constructor <;> (dsimp only [mh_rm]; omega)) ⟨Nat.le_refl _, Nat.le_refl _⟩ (fun _ _ q => c_X12_mintAt q) hX (fun v20 h19 H locs wd hX => ?_)
    refine lv_iload_n hx hb dX12_list_65 rfl (lv_at hl 2 rfl) ?_
    refine lv_iadd hx hb dX12_list_66 ?_
    refine mh_iald cx wd dX12_list_67 hX (fun v21 hX => ?_)
    refine lv_istore (lv' := [(4, .int v21), (0, .ref o0), (1, .int x1), (2, .int x2), (3, .int x3)]) hx hb dX12_list_68 hl (Nat.le_of_ble_eq_true rfl) rfl (fun ls hl => ?_)
    refine lv_iload_n hx hb dX12_list_70 rfl (lv_at hl 4 rfl) ?_
    refine lv_iload hx hb dX12_list_71 (lv_at hl 0 rfl) ?_
    obtain ⟨hz, hX⟩ := mh_nzk hX
    refine lv_idiv hx hb dX12_list_73 hz ?_
    refine mh_topi hX (fun v22 hX => ?_)
    refine lv_istore (lv' := [(5, .int v22), (4, .int v21), (0, .ref o0), (1, .int x1), (2, .int x2), (3, .int x3)]) hx hb dX12_list_74 hl (Nat.le_of_ble_eq_true rfl) rfl (fun ls hl => ?_)
    exact w_X12_list_b76 rc cx hrc hr mh_fu _ _ _ _ _ _ h19 _ _ ls wd (lv_sub hl [2, 3, 4, 5, 1, 0] rfl) hX
  · refine lv_iload_n hx hb dX12_list_4 rfl (lv_at hl 3 rfl) ?_
    refine lv_if_ne (tgt := 56) hx hb dX12_list_5 rfl (fun hc => (fun hX => ?_) ((mh_if hX).2 hc)) (fun hc => (fun hX => ?_) ((mh_if hX).1 hc))
    · exact w_X12_list_b56 rc cx hrc hr  h _ _ ls wd (lv_sub hl [] rfl) hX
    · refine lv_iconst (v := 0) hx hb dX12_list_8 (by decide) ?_
      refine mh_topi hX (fun v23 hX => ?_)
      refine lv_istore (lv' := [(4, .int v23), (0, .ref o0), (1, .int x1), (2, .int x2), (3, .int x3)]) hx hb dX12_list_9 hl (Nat.le_of_ble_eq_true rfl) rfl (fun ls hl => ?_)
      exact w_X12_list_b11 rc (f_X12_list_b56 rc) cx hrc hr (w_X12_list_b56 rc cx hrc hr) mh_fu _ _ h _ _ ls wd (lv_sub hl [1, 0] rfl) hX
set_option maxRecDepth 100000 in
theorem c_X12_list_d {l : Launch} {L : List Nat} : ∀ (d : Nat) {o0 : Nat} {x1 : Int32} {x2 : Int32} {x3 : Int32} {h h' : mh_H}, f_X12_list_d d o0 x1 x2 x3 h = some h' → mh_MV l yX12_list (Cond.code yX12_list cX12_list 6 none :: mh_TB) (mh_rm (d + 1)) [.ref o0, .int x1, .int x2, .int x3] L h h' := by
  intro d
  induction d with
  | zero =>
    intro o0 x1 x2 x3 h h' hX
    cases hX
  | succ d ih =>
    intro o0 x1 x2 x3 h h' hX
    rw [f_X12_list_d] at hX
    rw [show d + 1 + 1 = d + 2 from by omega]
    refine mh_of (mc := 0) (ms := 0) (Qc := fun D ks sz => mh_Qv D ks L sz h') (plainFor_of_name (by decide)) (Nat.le_of_ble_eq_true rfl) (fun p e s m below meth c D ks ls hr cx wd hl => ?_)
    have hl : lv_has ls 6 [(0, .ref o0), (1, .int x1), (2, .int x2), (3, .int x3)] := hl
    exact w_X12_list_e (dv := d) (f_X12_list_d d) cx (fun q => ih q) hr o0 x1 x2 x3 h _ _ ls wd hl hX
def f_X12_search_b73 (rc : Nat → Int32 → mh_H → Option mh_H) (h : mh_H) : Option mh_H :=
  some h
def f_X12_search_b50 (rc : Nat → Int32 → mh_H → Option mh_H) (k73 : mh_H → Option mh_H) : Nat → Nat → Int32 → Int32 → mh_H → Option mh_H
  | 0, _, _, _, _ => none
  | n + 1, o0, x1, x3, h =>
    if x1 ≤ x3 then (
    k73 h) else
    (mh_gR h o0 12 25).bind fun a1 =>
    (mh_gR h o0 12 24).bind fun a2 =>
    (mh_aI h a2 0 x3).bind fun v3 =>
    (mh_sI h a1 x3 v3).bind fun h4 =>
    mh_nm (x3 + Int32.ofInt (1)) fun v5 =>
    f_X12_search_b50 rc k73 n o0 x1 v5 h4
def f_X12_search_b129 (rc : Nat → Int32 → mh_H → Option mh_H) (h : mh_H) : Option mh_H :=
  some h
def f_X12_search_b85 (rc : Nat → Int32 → mh_H → Option mh_H) : Nat → Nat → Int32 → Int32 → Int32 → mh_H → Option mh_H
  | 0, _, _, _, _, _ => none
  | n + 1, o0, x1, x2, x3, h =>
    if (x2 + (1 : Int32)) < x3 then (
    f_X12_search_b129 rc h) else
    if (300 : Int32) < x3 then (
    f_X12_search_b129 rc h) else
    (mh_gI h o0 12 23).bind fun v6 =>
    if (2000 : Int32) < v6 then (
    f_X12_search_b129 rc h) else
    (mh_gR h o0 12 24).bind fun a7 =>
    (mh_sI h a7 x1 x3).bind fun h8 =>
    (mh_cal h8 o0 12 (rc o0 (x1 + (1 : Int32)) h8)).bind fun h9 =>
    mh_nm (x3 + Int32.ofInt (1)) fun v10 =>
    f_X12_search_b85 rc n o0 x1 x2 v10 h9
def f_X12_search_e (rc : Nat → Int32 → mh_H → Option mh_H) (o0 : Nat) (x1 : Int32) (h : mh_H) : Option mh_H :=
  (mh_gI h o0 12 23).bind fun v11 =>
  (mh_pI h o0 12 23 (v11 + (1 : Int32))).bind fun h12 =>
  (mh_gI h12 o0 12 23).bind fun v13 =>
  if v13 ≤ (2000 : Int32) then (
  mh_b2 (mh_cal h12 o0 12 (f_X12_trialStamps_e o0 x1 h12)) fun v15 h14 =>
  (mh_gI h14 o0 12 27).bind fun v16 =>
  if x1 = v16 then (
  (mh_gI h14 o0 12 26).bind fun v20 =>
  if v15 ≤ v20 then (
  f_X12_search_b73 rc h14) else
  (mh_pI h14 o0 12 26 v15).bind fun h21 =>
  mh_nm (0 : Int32) fun v22 =>
  f_X12_search_b50 rc (f_X12_search_b73 rc) mh_fu o0 x1 v22 h21) else
  (mh_gR h14 o0 12 24).bind fun a17 =>
  (mh_aI h14 a17 0 (x1 - (1 : Int32))).bind fun v18 =>
  mh_nm (v18 + (1 : Int32)) fun v19 =>
  f_X12_search_b85 rc mh_fu o0 x1 v15 v19 h14) else
  some h12
def f_X12_search_d : Nat → Nat → Int32 → mh_H → Option mh_H
  | 0, _, _, _ => none
  | d + 1, o0, x1, h => f_X12_search_e (f_X12_search_d d) o0 x1 h
set_option maxRecDepth 100000 in
set_option maxHeartbeats 4000000 in
theorem w_X12_search_b73 {p : Program} {l : Launch} {e : Env} {s : State} {m : MethodId} {args : Array Value} {below : List Frame} {meth : Method} {c : Code} {D : va_G} {ks : Nat → ClassId} {L : List Nat} {h' : mh_H} (rc : Nat → Int32 → mh_H → Option mh_H) (cx : mh_C p m c cX12_search 4 s args RX12 meth D ks (mh_A L s.heap.size)) {dv : Nat} (hrc : ∀ {o0 : Nat} {x1 : Int32} {h h2 : mh_H}, rc o0 x1 h = some h2 → mh_MV l yX12_search (Cond.code yX12_search cX12_search 4 none :: mh_TB) (mh_rm (dv + 2)) [.ref o0, .int x1] L h h2) (hr : meth.sig.returnType = none) :
    ∀ (h : mh_H) (H : Heap) (locs : List Loc) (ls : Array Slot), mh_W D ks L (mh_A L s.heap.size) s.heap h H locs → lv_has ls 4 [] → f_X12_search_b73 rc  h = some h' → W p l e (mh_rm (dv + 3)) s m args below meth c H locs 0 0 (MQ below (mh_Qv D ks L s.heap.size h') args s 0 0 (mh_A L s.heap.size)) (F0 m 73 ls []) := by
  intro  h H locs ls wd hl hX
  have hx := cx.1.1
  have hb := cx.1.2.1
  unfold f_X12_search_b73 at hX
  exact mh_vret cx wd hr hX dX12_search_73
set_option maxRecDepth 100000 in
set_option maxHeartbeats 4000000 in
theorem w_X12_search_b50 {p : Program} {l : Launch} {e : Env} {s : State} {m : MethodId} {args : Array Value} {below : List Frame} {meth : Method} {c : Code} {D : va_G} {ks : Nat → ClassId} {L : List Nat} {h' : mh_H} (rc : Nat → Int32 → mh_H → Option mh_H) (k73 : mh_H → Option mh_H) (cx : mh_C p m c cX12_search 4 s args RX12 meth D ks (mh_A L s.heap.size)) {dv : Nat} (hrc : ∀ {o0 : Nat} {x1 : Int32} {h h2 : mh_H}, rc o0 x1 h = some h2 → mh_MV l yX12_search (Cond.code yX12_search cX12_search 4 none :: mh_TB) (mh_rm (dv + 2)) [.ref o0, .int x1] L h h2) (hr : meth.sig.returnType = none)
    (hk73 : ∀ (h : mh_H) (H : Heap) (locs : List Loc) (ls : Array Slot), mh_W D ks L (mh_A L s.heap.size) s.heap h H locs → lv_has ls 4 [] → k73  h = some h' → W p l e (mh_rm (dv + 3)) s m args below meth c H locs 0 0 (MQ below (mh_Qv D ks L s.heap.size h') args s 0 0 (mh_A L s.heap.size)) (F0 m 73 ls [])) :
    ∀ n : Nat, ∀ (o0 : Nat) (x1 : Int32) (x3 : Int32) (h : mh_H) (H : Heap) (locs : List Loc) (ls : Array Slot), mh_W D ks L (mh_A L s.heap.size) s.heap h H locs → lv_has ls 4 [(0, .ref o0), (1, .int x1), (3, .int x3)] → f_X12_search_b50 rc k73 n o0 x1 x3 h = some h' → W p l e (mh_rm (dv + 3)) s m args below meth c H locs 0 0 (MQ below (mh_Qv D ks L s.heap.size h') args s 0 0 (mh_A L s.heap.size)) (F0 m 50 ls []) := by
  intro n
  induction n with
  | zero =>
    intro o0 x1 x3 h H locs ls wd hl hX
    cases hX
  | succ n ih =>
    intro o0 x1 x3 h H locs ls wd hl hX
    have hx := cx.1.1
    have hb := cx.1.2.1
    rw [f_X12_search_b50] at hX
    refine lv_iload_n hx hb dX12_search_50 rfl (lv_at hl 2 rfl) ?_
    refine lv_iload_n hx hb dX12_search_51 rfl (lv_at hl 1 rfl) ?_
    refine lv_icmp_ge (tgt := 73) hx hb dX12_search_52 rfl (fun hc => (fun hX => ?_) ((mh_if hX).1 hc)) (fun hc => (fun hX => ?_) ((mh_if hX).2 hc))
    · exact hk73  h _ _ ls wd (lv_sub hl [] rfl) hX
    · refine lv_aload_n hx hb dX12_search_55 rfl (lv_at hl 0 rfl) ?_
      refine mh_getR cx wd fl_X12_66 dX12_search_56 hX (fun a1 hX => ?_)
      refine lv_iload_n hx hb dX12_search_59 rfl (lv_at hl 2 rfl) ?_
      refine lv_aload_n hx hb dX12_search_60 rfl (lv_at hl 0 rfl) ?_
      refine mh_getR cx wd fl_X12_63 dX12_search_61 hX (fun a2 hX => ?_)
      refine lv_iload_n hx hb dX12_search_64 rfl (lv_at hl 2 rfl) ?_
      refine mh_iald cx wd dX12_search_65 hX (fun v3 hX => ?_)
      refine mh_iast cx wd dX12_search_66 hX (fun h4 H locs wd hX => ?_)
      obtain ⟨v5, ev5, hX⟩ := mh_nmx hX
      refine lv_iinc (k := 2) (v := v5) (lv' := [(3, .int v5), (0, .ref o0), (1, .int x1)]) hx hb dX12_search_67 hl rfl ev5 (Nat.le_of_ble_eq_true rfl) rfl (fun ls hl => ?_)
      refine lv_goto (tgt := 50) hx hb dX12_search_70 rfl ?_
      exact ih _ _ _ h4 _ _ ls wd (lv_sub hl [1, 2, 0] rfl) hX
set_option maxRecDepth 100000 in
set_option maxHeartbeats 4000000 in
theorem w_X12_search_b129 {p : Program} {l : Launch} {e : Env} {s : State} {m : MethodId} {args : Array Value} {below : List Frame} {meth : Method} {c : Code} {D : va_G} {ks : Nat → ClassId} {L : List Nat} {h' : mh_H} (rc : Nat → Int32 → mh_H → Option mh_H) (cx : mh_C p m c cX12_search 4 s args RX12 meth D ks (mh_A L s.heap.size)) {dv : Nat} (hrc : ∀ {o0 : Nat} {x1 : Int32} {h h2 : mh_H}, rc o0 x1 h = some h2 → mh_MV l yX12_search (Cond.code yX12_search cX12_search 4 none :: mh_TB) (mh_rm (dv + 2)) [.ref o0, .int x1] L h h2) (hr : meth.sig.returnType = none) :
    ∀ (h : mh_H) (H : Heap) (locs : List Loc) (ls : Array Slot), mh_W D ks L (mh_A L s.heap.size) s.heap h H locs → lv_has ls 4 [] → f_X12_search_b129 rc  h = some h' → W p l e (mh_rm (dv + 3)) s m args below meth c H locs 0 0 (MQ below (mh_Qv D ks L s.heap.size h') args s 0 0 (mh_A L s.heap.size)) (F0 m 129 ls []) := by
  intro  h H locs ls wd hl hX
  have hx := cx.1.1
  have hb := cx.1.2.1
  unfold f_X12_search_b129 at hX
  exact mh_vret cx wd hr hX dX12_search_129
set_option maxRecDepth 100000 in
set_option maxHeartbeats 4000000 in
theorem w_X12_search_b85 {p : Program} {l : Launch} {e : Env} {s : State} {m : MethodId} {args : Array Value} {below : List Frame} {meth : Method} {c : Code} {D : va_G} {ks : Nat → ClassId} {L : List Nat} {h' : mh_H} (rc : Nat → Int32 → mh_H → Option mh_H) (cx : mh_C p m c cX12_search 4 s args RX12 meth D ks (mh_A L s.heap.size)) {dv : Nat} (hrc : ∀ {o0 : Nat} {x1 : Int32} {h h2 : mh_H}, rc o0 x1 h = some h2 → mh_MV l yX12_search (Cond.code yX12_search cX12_search 4 none :: mh_TB) (mh_rm (dv + 2)) [.ref o0, .int x1] L h h2) (hr : meth.sig.returnType = none) :
    ∀ n : Nat, ∀ (o0 : Nat) (x1 : Int32) (x2 : Int32) (x3 : Int32) (h : mh_H) (H : Heap) (locs : List Loc) (ls : Array Slot), mh_W D ks L (mh_A L s.heap.size) s.heap h H locs → lv_has ls 4 [(0, .ref o0), (1, .int x1), (2, .int x2), (3, .int x3)] → f_X12_search_b85 rc n o0 x1 x2 x3 h = some h' → W p l e (mh_rm (dv + 3)) s m args below meth c H locs 0 0 (MQ below (mh_Qv D ks L s.heap.size h') args s 0 0 (mh_A L s.heap.size)) (F0 m 85 ls []) := by
  intro n
  induction n with
  | zero =>
    intro o0 x1 x2 x3 h H locs ls wd hl hX
    cases hX
  | succ n ih =>
    intro o0 x1 x2 x3 h H locs ls wd hl hX
    have hx := cx.1.1
    have hb := cx.1.2.1
    rw [f_X12_search_b85] at hX
    refine lv_iload_n hx hb dX12_search_85 rfl (lv_at hl 3 rfl) ?_
    refine lv_iload_n hx hb dX12_search_86 rfl (lv_at hl 2 rfl) ?_
    refine lv_iconst (v := 1) hx hb dX12_search_87 (by decide) ?_
    refine lv_iadd hx hb dX12_search_88 ?_
    refine lv_icmp_gt (tgt := 129) hx hb dX12_search_89 rfl (fun hc => (fun hX => ?_) ((mh_if hX).1 hc)) (fun hc => (fun hX => ?_) ((mh_if hX).2 hc))
    · exact w_X12_search_b129 rc cx hrc hr  h _ _ ls wd (lv_sub hl [] rfl) hX
    · refine lv_iload_n hx hb dX12_search_92 rfl (lv_at hl 3 rfl) ?_
      refine lv_sipush (v := 300) hx hb dX12_search_93 (by decide) ?_
      refine lv_icmp_gt (tgt := 129) hx hb dX12_search_96 rfl (fun hc => (fun hX => ?_) ((mh_if hX).1 hc)) (fun hc => (fun hX => ?_) ((mh_if hX).2 hc))
      · exact w_X12_search_b129 rc cx hrc hr  h _ _ ls wd (lv_sub hl [] rfl) hX
      · refine lv_aload_n hx hb dX12_search_99 rfl (lv_at hl 0 rfl) ?_
        refine mh_getI cx wd fl_X12_245 dX12_search_100 hX (fun v6 hX => ?_)
        refine lv_sipush (v := 2000) hx hb dX12_search_103 (by decide) ?_
        refine lv_icmp_gt (tgt := 129) hx hb dX12_search_106 rfl (fun hc => (fun hX => ?_) ((mh_if hX).1 hc)) (fun hc => (fun hX => ?_) ((mh_if hX).2 hc))
        · exact w_X12_search_b129 rc cx hrc hr  h _ _ ls wd (lv_sub hl [] rfl) hX
        · refine lv_aload_n hx hb dX12_search_109 rfl (lv_at hl 0 rfl) ?_
          refine mh_getR cx wd fl_X12_63 dX12_search_110 hX (fun a7 hX => ?_)
          refine lv_iload_n hx hb dX12_search_113 rfl (lv_at hl 1 rfl) ?_
          refine lv_iload_n hx hb dX12_search_114 rfl (lv_at hl 3 rfl) ?_
          refine mh_iast cx wd dX12_search_115 hX (fun h8 H locs wd hX => ?_)
          refine lv_aload_n hx hb dX12_search_116 rfl (lv_at hl 0 rfl) ?_
          refine lv_iload_n hx hb dX12_search_117 rfl (lv_at hl 1 rfl) ?_
          refine lv_iconst (v := 1) hx hb dX12_search_118 (by decide) ?_
          refine lv_iadd hx hb dX12_search_119 ?_
          refine mh_callVV cx wd [.int (x1 + (1 : Int32))] (rfl : vwCl[12]? = some (RX12, TX12, 38)) yw_X12_search vw_X12_257 rfl hl.1 rfl (Nat.le_of_ble_eq_true rfl) dX12_search_120 (by constructor <;> (dsimp only [mh_rm]; omega)) ⟨Nat.le_refl _, Nat.le_refl _⟩ (fun _ q => hrc q) hX (fun h9 H locs wd hX => ?_)
          obtain ⟨v10, ev10, hX⟩ := mh_nmx hX
          refine lv_iinc (k := 3) (v := v10) (lv' := [(3, .int v10), (0, .ref o0), (1, .int x1), (2, .int x2)]) hx hb dX12_search_123 hl rfl ev10 (Nat.le_of_ble_eq_true rfl) rfl (fun ls hl => ?_)
          refine lv_goto (tgt := 85) hx hb dX12_search_126 rfl ?_
          exact ih _ _ _ _ h9 _ _ ls wd (lv_sub hl [1, 2, 3, 0] rfl) hX
set_option maxRecDepth 100000 in
set_option maxHeartbeats 4000000 in
theorem w_X12_search_e {p : Program} {l : Launch} {e : Env} {s : State} {m : MethodId} {args : Array Value} {below : List Frame} {meth : Method} {c : Code} {D : va_G} {ks : Nat → ClassId} {L : List Nat} {h' : mh_H} (rc : Nat → Int32 → mh_H → Option mh_H) (cx : mh_C p m c cX12_search 4 s args RX12 meth D ks (mh_A L s.heap.size)) {dv : Nat} (hrc : ∀ {o0 : Nat} {x1 : Int32} {h h2 : mh_H}, rc o0 x1 h = some h2 → mh_MV l yX12_search (Cond.code yX12_search cX12_search 4 none :: mh_TB) (mh_rm (dv + 2)) [.ref o0, .int x1] L h h2) (hr : meth.sig.returnType = none) :
    ∀ (o0 : Nat) (x1 : Int32) (h : mh_H) (H : Heap) (locs : List Loc) (ls : Array Slot), mh_W D ks L (mh_A L s.heap.size) s.heap h H locs → lv_has ls 4 [(0, .ref o0), (1, .int x1)] → f_X12_search_e rc o0 x1 h = some h' → W p l e (mh_rm (dv + 3)) s m args below meth c H locs 0 0 (MQ below (mh_Qv D ks L s.heap.size h') args s 0 0 (mh_A L s.heap.size)) (F0 m 0 ls []) := by
  intro o0 x1 h H locs ls wd hl hX
  have hx := cx.1.1
  have hb := cx.1.2.1
  unfold f_X12_search_e at hX
  refine lv_aload_n hx hb dX12_search_0 rfl (lv_at hl 0 rfl) ?_
  refine lv_dup hx hb dX12_search_1 rfl ?_
  refine mh_getI cx wd fl_X12_245 dX12_search_2 hX (fun v11 hX => ?_)
  refine lv_iconst (v := 1) hx hb dX12_search_5 (by decide) ?_
  refine lv_iadd hx hb dX12_search_6 ?_
  refine mh_putI cx wd fp_X12_245 dX12_search_7 hX (fun h12 H locs wd hX => ?_)
  refine lv_aload_n hx hb dX12_search_10 rfl (lv_at hl 0 rfl) ?_
  refine mh_getI cx wd fl_X12_245 dX12_search_11 hX (fun v13 hX => ?_)
  refine lv_sipush (v := 2000) hx hb dX12_search_14 (by decide) ?_
  refine lv_icmp_le (tgt := 21) hx hb dX12_search_17 rfl (fun hc => (fun hX => ?_) ((mh_if hX).1 hc)) (fun hc => (fun hX => ?_) ((mh_if hX).2 hc))
  · refine lv_aload_n hx hb dX12_search_21 rfl (lv_at hl 0 rfl) ?_
    refine lv_iload_n hx hb dX12_search_22 rfl (lv_at hl 1 rfl) ?_
    refine mh_callVI cx wd [.int x1] (rfl : vwCl[12]? = some (RX12, TX12, 38)) yw_X12_trialStamps vw_X12_248 rfl hl.1 rfl (Nat.le_of_ble_eq_true rfl) dX12_search_23 (by constructor <;> (dsimp only [mh_rm]; omega)) ⟨Nat.le_refl _, Nat.le_refl _⟩ (fun _ _ q => c_X12_trialStamps q) hX (fun v15 h14 H locs wd hX => ?_)
    refine lv_istore_n (lv' := [(2, .int v15), (0, .ref o0), (1, .int x1)]) hx hb dX12_search_26 rfl hl (Nat.le_of_ble_eq_true rfl) rfl (fun ls hl => ?_)
    refine lv_iload_n hx hb dX12_search_27 rfl (lv_at hl 2 rfl) ?_
    refine lv_aload_n hx hb dX12_search_28 rfl (lv_at hl 1 rfl) ?_
    refine mh_getI cx wd fl_X12_251 dX12_search_29 hX (fun v16 hX => ?_)
    refine lv_icmp_ne (tgt := 74) hx hb dX12_search_32 rfl (fun hc => (fun hX => ?_) ((mh_if hX).2 hc)) (fun hc => (fun hX => ?_) ((mh_if hX).1 hc))
    · refine lv_aload_n hx hb dX12_search_74 rfl (lv_at hl 1 rfl) ?_
      refine mh_getR cx wd fl_X12_63 dX12_search_75 hX (fun a17 hX => ?_)
      refine lv_iload_n hx hb dX12_search_78 rfl (lv_at hl 2 rfl) ?_
      refine lv_iconst (v := 1) hx hb dX12_search_79 (by decide) ?_
      refine lv_isub hx hb dX12_search_80 ?_
      refine mh_iald cx wd dX12_search_81 hX (fun v18 hX => ?_)
      refine lv_iconst (v := 1) hx hb dX12_search_82 (by decide) ?_
      refine lv_iadd hx hb dX12_search_83 ?_
      refine mh_topi hX (fun v19 hX => ?_)
      refine lv_istore_n (lv' := [(3, .int v19), (2, .int v15), (0, .ref o0), (1, .int x1)]) hx hb dX12_search_84 rfl hl (Nat.le_of_ble_eq_true rfl) rfl (fun ls hl => ?_)
      exact w_X12_search_b85 rc cx hrc hr mh_fu _ _ _ _ h14 _ _ ls wd (lv_sub hl [2, 3, 1, 0] rfl) hX
    · refine lv_iload_n hx hb dX12_search_35 rfl (lv_at hl 0 rfl) ?_
      refine lv_aload_n hx hb dX12_search_36 rfl (lv_at hl 1 rfl) ?_
      refine mh_getI cx wd fl_X12_254 dX12_search_37 hX (fun v20 hX => ?_)
      refine lv_icmp_le (tgt := 73) hx hb dX12_search_40 rfl (fun hc => (fun hX => ?_) ((mh_if hX).1 hc)) (fun hc => (fun hX => ?_) ((mh_if hX).2 hc))
      · exact w_X12_search_b73 rc cx hrc hr  h14 _ _ ls wd (lv_sub hl [] rfl) hX
      · refine lv_aload_n hx hb dX12_search_43 rfl (lv_at hl 1 rfl) ?_
        refine lv_iload_n hx hb dX12_search_44 rfl (lv_at hl 0 rfl) ?_
        refine mh_putI cx wd fp_X12_254 dX12_search_45 hX (fun h21 H locs wd hX => ?_)
        refine lv_iconst (v := 0) hx hb dX12_search_48 (by decide) ?_
        refine mh_topi hX (fun v22 hX => ?_)
        refine lv_istore_n (lv' := [(3, .int v22), (2, .int v15), (0, .ref o0), (1, .int x1)]) hx hb dX12_search_49 rfl hl (Nat.le_of_ble_eq_true rfl) rfl (fun ls hl => ?_)
        exact w_X12_search_b50 rc (f_X12_search_b73 rc) cx hrc hr (w_X12_search_b73 rc cx hrc hr) mh_fu _ _ _ h21 _ _ ls wd (lv_sub hl [2, 3, 0] rfl) hX
  · exact mh_vret cx wd hr hX dX12_search_20
set_option maxRecDepth 100000 in
theorem c_X12_search_d {l : Launch} {L : List Nat} : ∀ (d : Nat) {o0 : Nat} {x1 : Int32} {h h' : mh_H}, f_X12_search_d d o0 x1 h = some h' → mh_MV l yX12_search (Cond.code yX12_search cX12_search 4 none :: mh_TB) (mh_rm (d + 2)) [.ref o0, .int x1] L h h' := by
  intro d
  induction d with
  | zero =>
    intro o0 x1 h h' hX
    cases hX
  | succ d ih =>
    intro o0 x1 h h' hX
    rw [f_X12_search_d] at hX
    rw [show d + 1 + 2 = d + 3 from by omega]
    refine mh_of (mc := 0) (ms := 0) (Qc := fun D ks sz => mh_Qv D ks L sz h') (plainFor_of_name (by decide)) (Nat.le_of_ble_eq_true rfl) (fun p e s m below meth c D ks ls hr cx wd hl => ?_)
    have hl : lv_has ls 4 [(0, .ref o0), (1, .int x1)] := hl
    exact w_X12_search_e (dv := d) (f_X12_search_d d) cx (fun q => ih q) hr o0 x1 h _ _ ls wd hl hX
def f_X12_apart_b29 (o0 : Nat) (h : mh_H) : Option (Int32 × mh_H) :=
  mh_b2 (mh_cal h o0 12 (f_X12_fail_e o0 (2 : Int32) h)) fun v2 h1 =>
  some (v2, h1)
def f_X12_apart_b166 (k135 : Nat → Int32 → Int32 → mh_H → Option (Int32 × mh_H)) (o0 : Nat) (x4 : Int32) (x5 : Int32) (t0 : Nat) (t1 : Int32) (t2 : Int32) (h : mh_H) : Option (Int32 × mh_H) :=
  (mh_sI h t0 t1 t2).bind fun h3 =>
  mh_nm (x5 + Int32.ofInt (1)) fun v4 =>
  k135 o0 x4 v4 h3
def f_X12_apart_b238 (k191 : Nat → Int32 → Int32 → Int32 → Int32 → mh_H → Option (Int32 × mh_H)) (o0 : Nat) (x4 : Int32) (x5 : Int32) (x6 : Int32) (x7 : Int32) (h : mh_H) : Option (Int32 × mh_H) :=
  mh_nm (x7 + Int32.ofInt (1)) fun v5 =>
  k191 o0 x4 x5 x6 v5 h
def f_X12_apart_b234 (k238 : Nat → Int32 → Int32 → Int32 → Int32 → mh_H → Option (Int32 × mh_H)) (o0 : Nat) (x4 : Int32) (x5 : Int32) (x7 : Int32) (h : mh_H) : Option (Int32 × mh_H) :=
  k238 o0 x4 x5 x7 x7 h
def f_X12_apart_b314 (k269 : Nat → Int32 → Int32 → Int32 → Int32 → mh_H → Option (Int32 × mh_H)) (o0 : Nat) (x4 : Int32) (x5 : Int32) (x6 : Int32) (x7 : Int32) (h : mh_H) : Option (Int32 × mh_H) :=
  mh_nm (x7 + Int32.ofInt (1)) fun v6 =>
  k269 o0 x4 x5 x6 v6 h
def f_X12_apart_b320 (k176 : Nat → Int32 → Int32 → mh_H → Option (Int32 × mh_H)) (o0 : Nat) (x4 : Int32) (x5 : Int32) (h : mh_H) : Option (Int32 × mh_H) :=
  mh_nm (x5 + Int32.ofInt (1)) fun v7 =>
  k176 o0 x4 v7 h
def f_X12_apart_b269 (k176 : Nat → Int32 → Int32 → mh_H → Option (Int32 × mh_H)) : Nat → Nat → Int32 → Int32 → Int32 → Int32 → mh_H → Option (Int32 × mh_H)
  | 0, _, _, _, _, _, _ => none
  | n + 1, o0, x4, x5, x6, x7, h =>
    (mh_gI h o0 12 22).bind fun v8 =>
    if v8 ≤ x7 then (
    f_X12_apart_b320 k176 o0 x4 x5 h) else
    (mh_gR h o0 12 21).bind fun a9 =>
    (mh_aI h a9 0 x7).bind fun v10 =>
    if v10 = (-1 : Int32) then (
    f_X12_apart_b314 (f_X12_apart_b269 k176 n) o0 x4 x5 x6 x7 h) else
    (mh_gR h o0 12 21).bind fun a11 =>
    (mh_gR h o0 12 21).bind fun a12 =>
    (mh_aI h a12 0 x7).bind fun v13 =>
    mh_b2 (mh_cal h o0 12 (f_X12_differ_e o0 x6 x7 h)) fun v15 h14 =>
    (mh_sI h14 a11 x7 (if v15 < v13 then v15 else v13)).bind fun h16 =>
    f_X12_apart_b314 (f_X12_apart_b269 k176 n) o0 x4 x5 x6 x7 h16
def f_X12_apart_b244 (k176 : Nat → Int32 → Int32 → mh_H → Option (Int32 × mh_H)) (o0 : Nat) (x4 : Int32) (x5 : Int32) (x6 : Int32) (h : mh_H) : Option (Int32 × mh_H) :=
  (mh_gR h o0 12 21).bind fun a17 =>
  (mh_aI h a17 0 x6).bind fun v18 =>
  mh_nm (if x4 < v18 then v18 else x4) fun v19 =>
  (mh_gR h o0 12 21).bind fun a20 =>
  (mh_sI h a20 x6 (-1 : Int32)).bind fun h21 =>
  mh_nm (0 : Int32) fun v22 =>
  f_X12_apart_b269 k176 mh_fu o0 v19 x5 x6 v22 h21
def f_X12_apart_b191 (k176 : Nat → Int32 → Int32 → mh_H → Option (Int32 × mh_H)) : Nat → Nat → Int32 → Int32 → Int32 → Int32 → mh_H → Option (Int32 × mh_H)
  | 0, _, _, _, _, _, _ => none
  | n + 1, o0, x4, x5, x6, x7, h =>
    (mh_gI h o0 12 22).bind fun v23 =>
    if v23 ≤ x7 then (
    f_X12_apart_b244 k176 o0 x4 x5 x6 h) else
    (mh_gR h o0 12 21).bind fun a24 =>
    (mh_aI h a24 0 x7).bind fun v25 =>
    if v25 = (-1 : Int32) then (
    f_X12_apart_b238 (f_X12_apart_b191 k176 n) o0 x4 x5 x6 x7 h) else
    if x6 = (-1 : Int32) then (
    f_X12_apart_b234 (f_X12_apart_b238 (f_X12_apart_b191 k176 n)) o0 x4 x5 x7 h) else
    (mh_gR h o0 12 21).bind fun a26 =>
    (mh_aI h a26 0 x7).bind fun v27 =>
    (mh_gR h o0 12 21).bind fun a28 =>
    (mh_aI h a28 0 x6).bind fun v29 =>
    if v29 ≤ v27 then (
    f_X12_apart_b238 (f_X12_apart_b191 k176 n) o0 x4 x5 x6 x7 h) else
    f_X12_apart_b234 (f_X12_apart_b238 (f_X12_apart_b191 k176 n)) o0 x4 x5 x7 h
def f_X12_apart_b326 (x4 : Int32) (h : mh_H) : Option (Int32 × mh_H) :=
  some (x4, h)
def f_X12_apart_b176 : Nat → Nat → Int32 → Int32 → mh_H → Option (Int32 × mh_H)
  | 0, _, _, _, _ => none
  | n + 1, o0, x4, x5, h =>
    (mh_gI h o0 12 22).bind fun v30 =>
    if v30 ≤ x5 then (
    f_X12_apart_b326 x4 h) else
    mh_nm (-1 : Int32) fun v31 =>
    mh_nm (0 : Int32) fun v32 =>
    f_X12_apart_b191 (f_X12_apart_b176 n) mh_fu o0 x4 x5 v31 v32 h
def f_X12_apart_b173 (o0 : Nat) (x4 : Int32) (h : mh_H) : Option (Int32 × mh_H) :=
  mh_nm (1 : Int32) fun v33 =>
  f_X12_apart_b176 mh_fu o0 x4 v33 h
def f_X12_apart_b135 : Nat → Nat → Int32 → Int32 → mh_H → Option (Int32 × mh_H)
  | 0, _, _, _, _ => none
  | n + 1, o0, x4, x5, h =>
    (mh_gI h o0 12 22).bind fun v34 =>
    if v34 ≤ x5 then (
    f_X12_apart_b173 o0 x4 h) else
    (mh_gR h o0 12 21).bind fun a35 =>
    if x5 = 0 then (
    f_X12_apart_b166 (f_X12_apart_b135 n) o0 x4 x5 a35 x5 (-1 : Int32) h) else
    mh_b2 (mh_cal h o0 12 (f_X12_differ_e o0 (0 : Int32) x5 h)) fun v37 h36 =>
    f_X12_apart_b166 (f_X12_apart_b135 n) o0 x4 x5 a35 x5 v37 h36
def f_X12_apart_b122 (o0 : Nat) (x1 : Int32) (x2 : Int32) (x3 : Int32) (h : mh_H) : Option (Int32 × mh_H) :=
  (mh_cal h o0 12 (f_X12_list_d 20 o0 x1 x3 x2 h)).bind fun h38 =>
  mh_nm (0 : Int32) fun v39 =>
  mh_nm (0 : Int32) fun v40 =>
  f_X12_apart_b135 mh_fu o0 v39 v40 h38
def f_X12_apart_b101 : Nat → Nat → Int32 → Int32 → Int32 → Int32 → mh_H → Option (Int32 × mh_H)
  | 0, _, _, _, _, _, _ => none
  | n + 1, o0, x1, x2, x3, x4, h =>
    if (12 : Int32) ≤ x4 then (
    f_X12_apart_b122 o0 x1 x2 x3 h) else
    (mh_gR h o0 12 20).bind fun a41 =>
    (mh_sI h a41 x4 (0 : Int32)).bind fun h42 =>
    mh_nm (x4 + Int32.ofInt (1)) fun v43 =>
    f_X12_apart_b101 n o0 x1 x2 x3 v43 h42
def f_X12_apart_e (o0 : Nat) (x1 : Int32) (x2 : Int32) (h : mh_H) : Option (Int32 × mh_H) :=
  (mh_pI h o0 12 0 (0 : Int32)).bind fun h44 =>
  mh_b2 (f_X12_isMint_e x1 h44) fun v46 h45 =>
  if v46 = 0 then (
  mh_b2 (mh_cal h45 o0 12 (f_X12_fail_e o0 (1 : Int32) h45)) fun v64 h63 =>
  some (v64, h63)) else
  if x2 < 0 then (
  f_X12_apart_b29 o0 h45) else
  if x2 < (3001 : Int32) then (
  (mh_gR h45 o0 12 1).bind fun a47 =>
  mh_b2 (f_X12_mintAt_e x1 h45) fun v49 h48 =>
  (mh_aI h48 a47 0 v49).bind fun v50 =>
  (mh_gR h48 o0 12 1).bind fun a51 =>
  mh_b2 (f_X12_mintAt_e x1 h48) fun v53 h52 =>
  (mh_cal h52 o0 12 (f_X12_count_e o0 a51 (v53 + (1 : Int32)) v50 h52)).bind fun h54 =>
  (mh_gR h54 o0 12 12).bind fun a55 =>
  (mh_aR h54 a55 6 v50).bind fun a56 =>
  (mh_aJ h54 a56 x2).bind fun w57 =>
  if (lg_cmp w57 (0 : Int64)) = 0 then (
  some ((-1 : Int32), h54)) else
  (mh_gR h54 o0 12 12).bind fun a58 =>
  (mh_aR h54 a58 6 v50).bind fun a59 =>
  (mh_aJ h54 a59 x2).bind fun w60 =>
  if (lg_cmp w60 (200 : Int64)) ≤ 0 then (
  (mh_pI h54 o0 12 22 (0 : Int32)).bind fun h61 =>
  mh_nm (0 : Int32) fun v62 =>
  f_X12_apart_b101 mh_fu o0 x1 x2 v50 v62 h61) else
  some ((-2 : Int32), h54)) else
  f_X12_apart_b29 o0 h45
set_option maxRecDepth 100000 in
set_option maxHeartbeats 4000000 in
theorem w_X12_apart_b29 {p : Program} {l : Launch} {e : Env} {s : State} {m : MethodId} {args : Array Value} {below : List Frame} {meth : Method} {c : Code} {D : va_G} {ks : Nat → ClassId} {L : List Nat} {r : Int32} {h' : mh_H} (cx : mh_C p m c cX12_apart 8 s args RX12 meth D ks (mh_A L s.heap.size)) (hr : meth.sig.returnType = (some .int)) :
    ∀ (o0 : Nat) (h : mh_H) (H : Heap) (locs : List Loc) (ls : Array Slot), mh_W D ks L (mh_A L s.heap.size) s.heap h H locs → lv_has ls 8 [(0, .ref o0)] → f_X12_apart_b29 o0 h = some (r, h') → W p l e (mh_rm 22) s m args below meth c H locs 0 0 (MQ below (mh_Qi D ks L s.heap.size r h') args s 0 0 (mh_A L s.heap.size)) (F0 m 29 ls []) := by
  intro o0 h H locs ls wd hl hX
  have hx := cx.1.1
  have hb := cx.1.2.1
  unfold f_X12_apart_b29 at hX
  refine lv_aload_n hx hb dX12_apart_29 rfl (lv_at hl 0 rfl) ?_
  refine lv_iconst (v := 2) hx hb dX12_apart_30 (by decide) ?_
  refine mh_callVI cx wd [.int (2 : Int32)] (rfl : vwCl[12]? = some (RX12, TX12, 38)) yw_X12_fail vw_X12_122 rfl hl.1 rfl (Nat.le_of_ble_eq_true rfl) dX12_apart_31 ⟨Nat.le_of_ble_eq_true rfl, Nat.le_of_ble_eq_true rfl⟩ ⟨Nat.le_refl _, Nat.le_refl _⟩ (fun _ _ q => c_X12_fail q) hX (fun v2 h1 H locs wd hX => ?_)
  exact mh_iret cx wd hr hX dX12_apart_34
set_option maxRecDepth 100000 in
set_option maxHeartbeats 4000000 in
theorem w_X12_apart_b166 {p : Program} {l : Launch} {e : Env} {s : State} {m : MethodId} {args : Array Value} {below : List Frame} {meth : Method} {c : Code} {D : va_G} {ks : Nat → ClassId} {L : List Nat} {r : Int32} {h' : mh_H} (k135 : Nat → Int32 → Int32 → mh_H → Option (Int32 × mh_H)) (cx : mh_C p m c cX12_apart 8 s args RX12 meth D ks (mh_A L s.heap.size)) (hr : meth.sig.returnType = (some .int))
    (hk135 : ∀ (o0 : Nat) (x4 : Int32) (x5 : Int32) (h : mh_H) (H : Heap) (locs : List Loc) (ls : Array Slot), mh_W D ks L (mh_A L s.heap.size) s.heap h H locs → lv_has ls 8 [(0, .ref o0), (4, .int x4), (5, .int x5)] → k135 o0 x4 x5 h = some (r, h') → W p l e (mh_rm 22) s m args below meth c H locs 0 0 (MQ below (mh_Qi D ks L s.heap.size r h') args s 0 0 (mh_A L s.heap.size)) (F0 m 135 ls [])) :
    ∀ (o0 : Nat) (x4 : Int32) (x5 : Int32) (t0 : Nat) (t1 : Int32) (t2 : Int32) (h : mh_H) (H : Heap) (locs : List Loc) (ls : Array Slot), mh_W D ks L (mh_A L s.heap.size) s.heap h H locs → lv_has ls 8 [(0, .ref o0), (4, .int x4), (5, .int x5)] → f_X12_apart_b166 k135 o0 x4 x5 t0 t1 t2 h = some (r, h') → W p l e (mh_rm 22) s m args below meth c H locs 0 0 (MQ below (mh_Qi D ks L s.heap.size r h') args s 0 0 (mh_A L s.heap.size)) (F0 m 166 ls [.int t2, .int t1, .ref t0]) := by
  intro o0 x4 x5 t0 t1 t2 h H locs ls wd hl hX
  have hx := cx.1.1
  have hb := cx.1.2.1
  unfold f_X12_apart_b166 at hX
  refine mh_iast cx wd dX12_apart_166 hX (fun h3 H locs wd hX => ?_)
  obtain ⟨v4, ev4, hX⟩ := mh_nmx hX
  refine lv_iinc (k := 2) (v := v4) (lv' := [(5, .int v4), (0, .ref o0), (4, .int x4)]) hx hb dX12_apart_167 hl rfl ev4 (Nat.le_of_ble_eq_true rfl) rfl (fun ls hl => ?_)
  refine lv_goto (tgt := 135) hx hb dX12_apart_170 rfl ?_
  exact hk135 _ _ _ h3 _ _ ls wd (lv_sub hl [1, 2, 0] rfl) hX
set_option maxRecDepth 100000 in
set_option maxHeartbeats 4000000 in
theorem w_X12_apart_b238 {p : Program} {l : Launch} {e : Env} {s : State} {m : MethodId} {args : Array Value} {below : List Frame} {meth : Method} {c : Code} {D : va_G} {ks : Nat → ClassId} {L : List Nat} {r : Int32} {h' : mh_H} (k191 : Nat → Int32 → Int32 → Int32 → Int32 → mh_H → Option (Int32 × mh_H)) (cx : mh_C p m c cX12_apart 8 s args RX12 meth D ks (mh_A L s.heap.size)) (hr : meth.sig.returnType = (some .int))
    (hk191 : ∀ (o0 : Nat) (x4 : Int32) (x5 : Int32) (x6 : Int32) (x7 : Int32) (h : mh_H) (H : Heap) (locs : List Loc) (ls : Array Slot), mh_W D ks L (mh_A L s.heap.size) s.heap h H locs → lv_has ls 8 [(0, .ref o0), (4, .int x4), (5, .int x5), (6, .int x6), (7, .int x7)] → k191 o0 x4 x5 x6 x7 h = some (r, h') → W p l e (mh_rm 22) s m args below meth c H locs 0 0 (MQ below (mh_Qi D ks L s.heap.size r h') args s 0 0 (mh_A L s.heap.size)) (F0 m 191 ls [])) :
    ∀ (o0 : Nat) (x4 : Int32) (x5 : Int32) (x6 : Int32) (x7 : Int32) (h : mh_H) (H : Heap) (locs : List Loc) (ls : Array Slot), mh_W D ks L (mh_A L s.heap.size) s.heap h H locs → lv_has ls 8 [(0, .ref o0), (4, .int x4), (5, .int x5), (6, .int x6), (7, .int x7)] → f_X12_apart_b238 k191 o0 x4 x5 x6 x7 h = some (r, h') → W p l e (mh_rm 22) s m args below meth c H locs 0 0 (MQ below (mh_Qi D ks L s.heap.size r h') args s 0 0 (mh_A L s.heap.size)) (F0 m 238 ls []) := by
  intro o0 x4 x5 x6 x7 h H locs ls wd hl hX
  have hx := cx.1.1
  have hb := cx.1.2.1
  unfold f_X12_apart_b238 at hX
  obtain ⟨v5, ev5, hX⟩ := mh_nmx hX
  refine lv_iinc (k := 4) (v := v5) (lv' := [(7, .int v5), (0, .ref o0), (4, .int x4), (5, .int x5), (6, .int x6)]) hx hb dX12_apart_238 hl rfl ev5 (Nat.le_of_ble_eq_true rfl) rfl (fun ls hl => ?_)
  refine lv_goto (tgt := 191) hx hb dX12_apart_241 rfl ?_
  exact hk191 _ _ _ _ _ h _ _ ls wd (lv_sub hl [1, 2, 3, 4, 0] rfl) hX
set_option maxRecDepth 100000 in
set_option maxHeartbeats 4000000 in
theorem w_X12_apart_b234 {p : Program} {l : Launch} {e : Env} {s : State} {m : MethodId} {args : Array Value} {below : List Frame} {meth : Method} {c : Code} {D : va_G} {ks : Nat → ClassId} {L : List Nat} {r : Int32} {h' : mh_H} (k238 : Nat → Int32 → Int32 → Int32 → Int32 → mh_H → Option (Int32 × mh_H)) (cx : mh_C p m c cX12_apart 8 s args RX12 meth D ks (mh_A L s.heap.size)) (hr : meth.sig.returnType = (some .int))
    (hk238 : ∀ (o0 : Nat) (x4 : Int32) (x5 : Int32) (x6 : Int32) (x7 : Int32) (h : mh_H) (H : Heap) (locs : List Loc) (ls : Array Slot), mh_W D ks L (mh_A L s.heap.size) s.heap h H locs → lv_has ls 8 [(0, .ref o0), (4, .int x4), (5, .int x5), (6, .int x6), (7, .int x7)] → k238 o0 x4 x5 x6 x7 h = some (r, h') → W p l e (mh_rm 22) s m args below meth c H locs 0 0 (MQ below (mh_Qi D ks L s.heap.size r h') args s 0 0 (mh_A L s.heap.size)) (F0 m 238 ls [])) :
    ∀ (o0 : Nat) (x4 : Int32) (x5 : Int32) (x7 : Int32) (h : mh_H) (H : Heap) (locs : List Loc) (ls : Array Slot), mh_W D ks L (mh_A L s.heap.size) s.heap h H locs → lv_has ls 8 [(0, .ref o0), (4, .int x4), (5, .int x5), (7, .int x7)] → f_X12_apart_b234 k238 o0 x4 x5 x7 h = some (r, h') → W p l e (mh_rm 22) s m args below meth c H locs 0 0 (MQ below (mh_Qi D ks L s.heap.size r h') args s 0 0 (mh_A L s.heap.size)) (F0 m 234 ls []) := by
  intro o0 x4 x5 x7 h H locs ls wd hl hX
  have hx := cx.1.1
  have hb := cx.1.2.1
  unfold f_X12_apart_b234 at hX
  refine lv_iload hx hb dX12_apart_234 (lv_at hl 3 rfl) ?_
  refine lv_istore (lv' := [(6, .int x7), (0, .ref o0), (4, .int x4), (5, .int x5), (7, .int x7)]) hx hb dX12_apart_236 hl (Nat.le_of_ble_eq_true rfl) rfl (fun ls hl => ?_)
  exact hk238 _ _ _ _ _ h _ _ ls wd (lv_sub hl [1, 2, 3, 0, 4] rfl) hX
set_option maxRecDepth 100000 in
set_option maxHeartbeats 4000000 in
theorem w_X12_apart_b314 {p : Program} {l : Launch} {e : Env} {s : State} {m : MethodId} {args : Array Value} {below : List Frame} {meth : Method} {c : Code} {D : va_G} {ks : Nat → ClassId} {L : List Nat} {r : Int32} {h' : mh_H} (k269 : Nat → Int32 → Int32 → Int32 → Int32 → mh_H → Option (Int32 × mh_H)) (cx : mh_C p m c cX12_apart 8 s args RX12 meth D ks (mh_A L s.heap.size)) (hr : meth.sig.returnType = (some .int))
    (hk269 : ∀ (o0 : Nat) (x4 : Int32) (x5 : Int32) (x6 : Int32) (x7 : Int32) (h : mh_H) (H : Heap) (locs : List Loc) (ls : Array Slot), mh_W D ks L (mh_A L s.heap.size) s.heap h H locs → lv_has ls 8 [(0, .ref o0), (4, .int x4), (5, .int x5), (6, .int x6), (7, .int x7)] → k269 o0 x4 x5 x6 x7 h = some (r, h') → W p l e (mh_rm 22) s m args below meth c H locs 0 0 (MQ below (mh_Qi D ks L s.heap.size r h') args s 0 0 (mh_A L s.heap.size)) (F0 m 269 ls [])) :
    ∀ (o0 : Nat) (x4 : Int32) (x5 : Int32) (x6 : Int32) (x7 : Int32) (h : mh_H) (H : Heap) (locs : List Loc) (ls : Array Slot), mh_W D ks L (mh_A L s.heap.size) s.heap h H locs → lv_has ls 8 [(0, .ref o0), (4, .int x4), (5, .int x5), (6, .int x6), (7, .int x7)] → f_X12_apart_b314 k269 o0 x4 x5 x6 x7 h = some (r, h') → W p l e (mh_rm 22) s m args below meth c H locs 0 0 (MQ below (mh_Qi D ks L s.heap.size r h') args s 0 0 (mh_A L s.heap.size)) (F0 m 314 ls []) := by
  intro o0 x4 x5 x6 x7 h H locs ls wd hl hX
  have hx := cx.1.1
  have hb := cx.1.2.1
  unfold f_X12_apart_b314 at hX
  obtain ⟨v6, ev6, hX⟩ := mh_nmx hX
  refine lv_iinc (k := 4) (v := v6) (lv' := [(7, .int v6), (0, .ref o0), (4, .int x4), (5, .int x5), (6, .int x6)]) hx hb dX12_apart_314 hl rfl ev6 (Nat.le_of_ble_eq_true rfl) rfl (fun ls hl => ?_)
  refine lv_goto (tgt := 269) hx hb dX12_apart_317 rfl ?_
  exact hk269 _ _ _ _ _ h _ _ ls wd (lv_sub hl [1, 2, 3, 4, 0] rfl) hX
set_option maxRecDepth 100000 in
set_option maxHeartbeats 4000000 in
theorem w_X12_apart_b320 {p : Program} {l : Launch} {e : Env} {s : State} {m : MethodId} {args : Array Value} {below : List Frame} {meth : Method} {c : Code} {D : va_G} {ks : Nat → ClassId} {L : List Nat} {r : Int32} {h' : mh_H} (k176 : Nat → Int32 → Int32 → mh_H → Option (Int32 × mh_H)) (cx : mh_C p m c cX12_apart 8 s args RX12 meth D ks (mh_A L s.heap.size)) (hr : meth.sig.returnType = (some .int))
    (hk176 : ∀ (o0 : Nat) (x4 : Int32) (x5 : Int32) (h : mh_H) (H : Heap) (locs : List Loc) (ls : Array Slot), mh_W D ks L (mh_A L s.heap.size) s.heap h H locs → lv_has ls 8 [(0, .ref o0), (4, .int x4), (5, .int x5)] → k176 o0 x4 x5 h = some (r, h') → W p l e (mh_rm 22) s m args below meth c H locs 0 0 (MQ below (mh_Qi D ks L s.heap.size r h') args s 0 0 (mh_A L s.heap.size)) (F0 m 176 ls [])) :
    ∀ (o0 : Nat) (x4 : Int32) (x5 : Int32) (h : mh_H) (H : Heap) (locs : List Loc) (ls : Array Slot), mh_W D ks L (mh_A L s.heap.size) s.heap h H locs → lv_has ls 8 [(0, .ref o0), (4, .int x4), (5, .int x5)] → f_X12_apart_b320 k176 o0 x4 x5 h = some (r, h') → W p l e (mh_rm 22) s m args below meth c H locs 0 0 (MQ below (mh_Qi D ks L s.heap.size r h') args s 0 0 (mh_A L s.heap.size)) (F0 m 320 ls []) := by
  intro o0 x4 x5 h H locs ls wd hl hX
  have hx := cx.1.1
  have hb := cx.1.2.1
  unfold f_X12_apart_b320 at hX
  obtain ⟨v7, ev7, hX⟩ := mh_nmx hX
  refine lv_iinc (k := 2) (v := v7) (lv' := [(5, .int v7), (0, .ref o0), (4, .int x4)]) hx hb dX12_apart_320 hl rfl ev7 (Nat.le_of_ble_eq_true rfl) rfl (fun ls hl => ?_)
  refine lv_goto (tgt := 176) hx hb dX12_apart_323 rfl ?_
  exact hk176 _ _ _ h _ _ ls wd (lv_sub hl [1, 2, 0] rfl) hX
set_option maxRecDepth 100000 in
set_option maxHeartbeats 4000000 in
theorem w_X12_apart_b269 {p : Program} {l : Launch} {e : Env} {s : State} {m : MethodId} {args : Array Value} {below : List Frame} {meth : Method} {c : Code} {D : va_G} {ks : Nat → ClassId} {L : List Nat} {r : Int32} {h' : mh_H} (k176 : Nat → Int32 → Int32 → mh_H → Option (Int32 × mh_H)) (cx : mh_C p m c cX12_apart 8 s args RX12 meth D ks (mh_A L s.heap.size)) (hr : meth.sig.returnType = (some .int))
    (hk176 : ∀ (o0 : Nat) (x4 : Int32) (x5 : Int32) (h : mh_H) (H : Heap) (locs : List Loc) (ls : Array Slot), mh_W D ks L (mh_A L s.heap.size) s.heap h H locs → lv_has ls 8 [(0, .ref o0), (4, .int x4), (5, .int x5)] → k176 o0 x4 x5 h = some (r, h') → W p l e (mh_rm 22) s m args below meth c H locs 0 0 (MQ below (mh_Qi D ks L s.heap.size r h') args s 0 0 (mh_A L s.heap.size)) (F0 m 176 ls [])) :
    ∀ n : Nat, ∀ (o0 : Nat) (x4 : Int32) (x5 : Int32) (x6 : Int32) (x7 : Int32) (h : mh_H) (H : Heap) (locs : List Loc) (ls : Array Slot), mh_W D ks L (mh_A L s.heap.size) s.heap h H locs → lv_has ls 8 [(0, .ref o0), (4, .int x4), (5, .int x5), (6, .int x6), (7, .int x7)] → f_X12_apart_b269 k176 n o0 x4 x5 x6 x7 h = some (r, h') → W p l e (mh_rm 22) s m args below meth c H locs 0 0 (MQ below (mh_Qi D ks L s.heap.size r h') args s 0 0 (mh_A L s.heap.size)) (F0 m 269 ls []) := by
  intro n
  induction n with
  | zero =>
    intro o0 x4 x5 x6 x7 h H locs ls wd hl hX
    cases hX
  | succ n ih =>
    intro o0 x4 x5 x6 x7 h H locs ls wd hl hX
    have hx := cx.1.1
    have hb := cx.1.2.1
    rw [f_X12_apart_b269] at hX
    refine lv_iload hx hb dX12_apart_269 (lv_at hl 4 rfl) ?_
    refine lv_aload_n hx hb dX12_apart_271 rfl (lv_at hl 0 rfl) ?_
    refine mh_getI cx wd fl_X12_226 dX12_apart_272 hX (fun v8 hX => ?_)
    refine lv_icmp_ge (tgt := 320) hx hb dX12_apart_275 rfl (fun hc => (fun hX => ?_) ((mh_if hX).1 hc)) (fun hc => (fun hX => ?_) ((mh_if hX).2 hc))
    · exact w_X12_apart_b320 k176 cx hr hk176 _ _ _ h _ _ ls wd (lv_sub hl [0, 1, 2] rfl) hX
    · refine lv_aload_n hx hb dX12_apart_278 rfl (lv_at hl 0 rfl) ?_
      refine mh_getR cx wd fl_X12_60 dX12_apart_279 hX (fun a9 hX => ?_)
      refine lv_iload hx hb dX12_apart_282 (lv_at hl 4 rfl) ?_
      refine mh_iald cx wd dX12_apart_284 hX (fun v10 hX => ?_)
      refine lv_iconst (v := (-1)) hx hb dX12_apart_285 (by decide) ?_
      refine lv_icmp_eq (tgt := 314) hx hb dX12_apart_286 rfl (fun hc => (fun hX => ?_) ((mh_if hX).1 hc)) (fun hc => (fun hX => ?_) ((mh_if hX).2 hc))
      · exact w_X12_apart_b314 (f_X12_apart_b269 k176 n) cx hr ih _ _ _ _ _ h _ _ ls wd (lv_sub hl [0, 1, 2, 3, 4] rfl) hX
      · refine lv_aload_n hx hb dX12_apart_289 rfl (lv_at hl 0 rfl) ?_
        refine mh_getR cx wd fl_X12_60 dX12_apart_290 hX (fun a11 hX => ?_)
        refine lv_iload hx hb dX12_apart_293 (lv_at hl 4 rfl) ?_
        refine lv_aload_n hx hb dX12_apart_295 rfl (lv_at hl 0 rfl) ?_
        refine mh_getR cx wd fl_X12_60 dX12_apart_296 hX (fun a12 hX => ?_)
        refine lv_iload hx hb dX12_apart_299 (lv_at hl 4 rfl) ?_
        refine mh_iald cx wd dX12_apart_301 hX (fun v13 hX => ?_)
        refine lv_aload_n hx hb dX12_apart_302 rfl (lv_at hl 0 rfl) ?_
        refine lv_iload hx hb dX12_apart_303 (lv_at hl 3 rfl) ?_
        refine lv_iload hx hb dX12_apart_305 (lv_at hl 4 rfl) ?_
        refine mh_callVI cx wd [.int x6, .int x7] (rfl : vwCl[12]? = some (RX12, TX12, 38)) yw_X12_differ vw_X12_238 rfl hl.1 rfl (Nat.le_of_ble_eq_true rfl) dX12_apart_307 ⟨Nat.le_of_ble_eq_true rfl, Nat.le_of_ble_eq_true rfl⟩ ⟨Nat.le_refl _, Nat.le_refl _⟩ (fun _ _ q => c_X12_differ q) hX (fun v15 h14 H locs wd hX => ?_)
        refine mh_mmin mh_Mok cx hl.1 km_X12_157 (Nat.le_of_ble_eq_true rfl) (Nat.le_of_ble_eq_true rfl) ⟨Nat.le_refl _, Nat.le_refl _⟩ dX12_apart_310 ?_
        refine mh_iast cx wd dX12_apart_313 hX (fun h16 H locs wd hX => ?_)
        exact w_X12_apart_b314 (f_X12_apart_b269 k176 n) cx hr ih _ _ _ _ _ h16 _ _ ls wd (lv_sub hl [0, 1, 2, 3, 4] rfl) hX
set_option maxRecDepth 100000 in
set_option maxHeartbeats 4000000 in
theorem w_X12_apart_b244 {p : Program} {l : Launch} {e : Env} {s : State} {m : MethodId} {args : Array Value} {below : List Frame} {meth : Method} {c : Code} {D : va_G} {ks : Nat → ClassId} {L : List Nat} {r : Int32} {h' : mh_H} (k176 : Nat → Int32 → Int32 → mh_H → Option (Int32 × mh_H)) (cx : mh_C p m c cX12_apart 8 s args RX12 meth D ks (mh_A L s.heap.size)) (hr : meth.sig.returnType = (some .int))
    (hk176 : ∀ (o0 : Nat) (x4 : Int32) (x5 : Int32) (h : mh_H) (H : Heap) (locs : List Loc) (ls : Array Slot), mh_W D ks L (mh_A L s.heap.size) s.heap h H locs → lv_has ls 8 [(0, .ref o0), (4, .int x4), (5, .int x5)] → k176 o0 x4 x5 h = some (r, h') → W p l e (mh_rm 22) s m args below meth c H locs 0 0 (MQ below (mh_Qi D ks L s.heap.size r h') args s 0 0 (mh_A L s.heap.size)) (F0 m 176 ls [])) :
    ∀ (o0 : Nat) (x4 : Int32) (x5 : Int32) (x6 : Int32) (h : mh_H) (H : Heap) (locs : List Loc) (ls : Array Slot), mh_W D ks L (mh_A L s.heap.size) s.heap h H locs → lv_has ls 8 [(0, .ref o0), (4, .int x4), (5, .int x5), (6, .int x6)] → f_X12_apart_b244 k176 o0 x4 x5 x6 h = some (r, h') → W p l e (mh_rm 22) s m args below meth c H locs 0 0 (MQ below (mh_Qi D ks L s.heap.size r h') args s 0 0 (mh_A L s.heap.size)) (F0 m 244 ls []) := by
  intro o0 x4 x5 x6 h H locs ls wd hl hX
  have hx := cx.1.1
  have hb := cx.1.2.1
  unfold f_X12_apart_b244 at hX
  refine lv_iload hx hb dX12_apart_244 (lv_at hl 1 rfl) ?_
  refine lv_aload_n hx hb dX12_apart_246 rfl (lv_at hl 0 rfl) ?_
  refine mh_getR cx wd fl_X12_60 dX12_apart_247 hX (fun a17 hX => ?_)
  refine lv_iload hx hb dX12_apart_250 (lv_at hl 3 rfl) ?_
  refine mh_iald cx wd dX12_apart_252 hX (fun v18 hX => ?_)
  refine mh_mmax mh_Mok cx hl.1 km_X12_233 (Nat.le_of_ble_eq_true rfl) (Nat.le_of_ble_eq_true rfl) ⟨Nat.le_refl _, Nat.le_refl _⟩ dX12_apart_253 ?_
  refine mh_topi hX (fun v19 hX => ?_)
  refine lv_istore (lv' := [(4, .int v19), (0, .ref o0), (5, .int x5), (6, .int x6)]) hx hb dX12_apart_256 hl (Nat.le_of_ble_eq_true rfl) rfl (fun ls hl => ?_)
  refine lv_aload_n hx hb dX12_apart_258 rfl (lv_at hl 1 rfl) ?_
  refine mh_getR cx wd fl_X12_60 dX12_apart_259 hX (fun a20 hX => ?_)
  refine lv_iload hx hb dX12_apart_262 (lv_at hl 3 rfl) ?_
  refine lv_iconst (v := (-1)) hx hb dX12_apart_264 (by decide) ?_
  refine mh_iast cx wd dX12_apart_265 hX (fun h21 H locs wd hX => ?_)
  refine lv_iconst (v := 0) hx hb dX12_apart_266 (by decide) ?_
  refine mh_topi hX (fun v22 hX => ?_)
  refine lv_istore (lv' := [(7, .int v22), (4, .int v19), (0, .ref o0), (5, .int x5), (6, .int x6)]) hx hb dX12_apart_267 hl (Nat.le_of_ble_eq_true rfl) rfl (fun ls hl => ?_)
  exact w_X12_apart_b269 k176 cx hr hk176 mh_fu _ _ _ _ _ h21 _ _ ls wd (lv_sub hl [2, 1, 3, 4, 0] rfl) hX
set_option maxRecDepth 100000 in
set_option maxHeartbeats 4000000 in
theorem w_X12_apart_b191 {p : Program} {l : Launch} {e : Env} {s : State} {m : MethodId} {args : Array Value} {below : List Frame} {meth : Method} {c : Code} {D : va_G} {ks : Nat → ClassId} {L : List Nat} {r : Int32} {h' : mh_H} (k176 : Nat → Int32 → Int32 → mh_H → Option (Int32 × mh_H)) (cx : mh_C p m c cX12_apart 8 s args RX12 meth D ks (mh_A L s.heap.size)) (hr : meth.sig.returnType = (some .int))
    (hk176 : ∀ (o0 : Nat) (x4 : Int32) (x5 : Int32) (h : mh_H) (H : Heap) (locs : List Loc) (ls : Array Slot), mh_W D ks L (mh_A L s.heap.size) s.heap h H locs → lv_has ls 8 [(0, .ref o0), (4, .int x4), (5, .int x5)] → k176 o0 x4 x5 h = some (r, h') → W p l e (mh_rm 22) s m args below meth c H locs 0 0 (MQ below (mh_Qi D ks L s.heap.size r h') args s 0 0 (mh_A L s.heap.size)) (F0 m 176 ls [])) :
    ∀ n : Nat, ∀ (o0 : Nat) (x4 : Int32) (x5 : Int32) (x6 : Int32) (x7 : Int32) (h : mh_H) (H : Heap) (locs : List Loc) (ls : Array Slot), mh_W D ks L (mh_A L s.heap.size) s.heap h H locs → lv_has ls 8 [(0, .ref o0), (4, .int x4), (5, .int x5), (6, .int x6), (7, .int x7)] → f_X12_apart_b191 k176 n o0 x4 x5 x6 x7 h = some (r, h') → W p l e (mh_rm 22) s m args below meth c H locs 0 0 (MQ below (mh_Qi D ks L s.heap.size r h') args s 0 0 (mh_A L s.heap.size)) (F0 m 191 ls []) := by
  intro n
  induction n with
  | zero =>
    intro o0 x4 x5 x6 x7 h H locs ls wd hl hX
    cases hX
  | succ n ih =>
    intro o0 x4 x5 x6 x7 h H locs ls wd hl hX
    have hx := cx.1.1
    have hb := cx.1.2.1
    rw [f_X12_apart_b191] at hX
    refine lv_iload hx hb dX12_apart_191 (lv_at hl 4 rfl) ?_
    refine lv_aload_n hx hb dX12_apart_193 rfl (lv_at hl 0 rfl) ?_
    refine mh_getI cx wd fl_X12_226 dX12_apart_194 hX (fun v23 hX => ?_)
    refine lv_icmp_ge (tgt := 244) hx hb dX12_apart_197 rfl (fun hc => (fun hX => ?_) ((mh_if hX).1 hc)) (fun hc => (fun hX => ?_) ((mh_if hX).2 hc))
    · exact w_X12_apart_b244 k176 cx hr hk176 _ _ _ _ h _ _ ls wd (lv_sub hl [0, 1, 2, 3] rfl) hX
    · refine lv_aload_n hx hb dX12_apart_200 rfl (lv_at hl 0 rfl) ?_
      refine mh_getR cx wd fl_X12_60 dX12_apart_201 hX (fun a24 hX => ?_)
      refine lv_iload hx hb dX12_apart_204 (lv_at hl 4 rfl) ?_
      refine mh_iald cx wd dX12_apart_206 hX (fun v25 hX => ?_)
      refine lv_iconst (v := (-1)) hx hb dX12_apart_207 (by decide) ?_
      refine lv_icmp_eq (tgt := 238) hx hb dX12_apart_208 rfl (fun hc => (fun hX => ?_) ((mh_if hX).1 hc)) (fun hc => (fun hX => ?_) ((mh_if hX).2 hc))
      · exact w_X12_apart_b238 (f_X12_apart_b191 k176 n) cx hr ih _ _ _ _ _ h _ _ ls wd (lv_sub hl [0, 1, 2, 3, 4] rfl) hX
      · refine lv_iload hx hb dX12_apart_211 (lv_at hl 3 rfl) ?_
        refine lv_iconst (v := (-1)) hx hb dX12_apart_213 (by decide) ?_
        refine lv_icmp_eq (tgt := 234) hx hb dX12_apart_214 rfl (fun hc => (fun hX => ?_) ((mh_if hX).1 hc)) (fun hc => (fun hX => ?_) ((mh_if hX).2 hc))
        · exact w_X12_apart_b234 (f_X12_apart_b238 (f_X12_apart_b191 k176 n)) cx hr (w_X12_apart_b238 (f_X12_apart_b191 k176 n) cx hr ih) _ _ _ _ h _ _ ls wd (lv_sub hl [0, 1, 2, 4] rfl) hX
        · refine lv_aload_n hx hb dX12_apart_217 rfl (lv_at hl 0 rfl) ?_
          refine mh_getR cx wd fl_X12_60 dX12_apart_218 hX (fun a26 hX => ?_)
          refine lv_iload hx hb dX12_apart_221 (lv_at hl 4 rfl) ?_
          refine mh_iald cx wd dX12_apart_223 hX (fun v27 hX => ?_)
          refine lv_aload_n hx hb dX12_apart_224 rfl (lv_at hl 0 rfl) ?_
          refine mh_getR cx wd fl_X12_60 dX12_apart_225 hX (fun a28 hX => ?_)
          refine lv_iload hx hb dX12_apart_228 (lv_at hl 3 rfl) ?_
          refine mh_iald cx wd dX12_apart_230 hX (fun v29 hX => ?_)
          refine lv_icmp_ge (tgt := 238) hx hb dX12_apart_231 rfl (fun hc => (fun hX => ?_) ((mh_if hX).1 hc)) (fun hc => (fun hX => ?_) ((mh_if hX).2 hc))
          · exact w_X12_apart_b238 (f_X12_apart_b191 k176 n) cx hr ih _ _ _ _ _ h _ _ ls wd (lv_sub hl [0, 1, 2, 3, 4] rfl) hX
          · exact w_X12_apart_b234 (f_X12_apart_b238 (f_X12_apart_b191 k176 n)) cx hr (w_X12_apart_b238 (f_X12_apart_b191 k176 n) cx hr ih) _ _ _ _ h _ _ ls wd (lv_sub hl [0, 1, 2, 4] rfl) hX
set_option maxRecDepth 100000 in
set_option maxHeartbeats 4000000 in
theorem w_X12_apart_b326 {p : Program} {l : Launch} {e : Env} {s : State} {m : MethodId} {args : Array Value} {below : List Frame} {meth : Method} {c : Code} {D : va_G} {ks : Nat → ClassId} {L : List Nat} {r : Int32} {h' : mh_H} (cx : mh_C p m c cX12_apart 8 s args RX12 meth D ks (mh_A L s.heap.size)) (hr : meth.sig.returnType = (some .int)) :
    ∀ (x4 : Int32) (h : mh_H) (H : Heap) (locs : List Loc) (ls : Array Slot), mh_W D ks L (mh_A L s.heap.size) s.heap h H locs → lv_has ls 8 [(4, .int x4)] → f_X12_apart_b326 x4 h = some (r, h') → W p l e (mh_rm 22) s m args below meth c H locs 0 0 (MQ below (mh_Qi D ks L s.heap.size r h') args s 0 0 (mh_A L s.heap.size)) (F0 m 326 ls []) := by
  intro x4 h H locs ls wd hl hX
  have hx := cx.1.1
  have hb := cx.1.2.1
  unfold f_X12_apart_b326 at hX
  refine lv_iload hx hb dX12_apart_326 (lv_at hl 0 rfl) ?_
  exact mh_iret cx wd hr hX dX12_apart_328
set_option maxRecDepth 100000 in
set_option maxHeartbeats 4000000 in
theorem w_X12_apart_b176 {p : Program} {l : Launch} {e : Env} {s : State} {m : MethodId} {args : Array Value} {below : List Frame} {meth : Method} {c : Code} {D : va_G} {ks : Nat → ClassId} {L : List Nat} {r : Int32} {h' : mh_H} (cx : mh_C p m c cX12_apart 8 s args RX12 meth D ks (mh_A L s.heap.size)) (hr : meth.sig.returnType = (some .int)) :
    ∀ n : Nat, ∀ (o0 : Nat) (x4 : Int32) (x5 : Int32) (h : mh_H) (H : Heap) (locs : List Loc) (ls : Array Slot), mh_W D ks L (mh_A L s.heap.size) s.heap h H locs → lv_has ls 8 [(0, .ref o0), (4, .int x4), (5, .int x5)] → f_X12_apart_b176 n o0 x4 x5 h = some (r, h') → W p l e (mh_rm 22) s m args below meth c H locs 0 0 (MQ below (mh_Qi D ks L s.heap.size r h') args s 0 0 (mh_A L s.heap.size)) (F0 m 176 ls []) := by
  intro n
  induction n with
  | zero =>
    intro o0 x4 x5 h H locs ls wd hl hX
    cases hX
  | succ n ih =>
    intro o0 x4 x5 h H locs ls wd hl hX
    have hx := cx.1.1
    have hb := cx.1.2.1
    rw [f_X12_apart_b176] at hX
    refine lv_iload hx hb dX12_apart_176 (lv_at hl 2 rfl) ?_
    refine lv_aload_n hx hb dX12_apart_178 rfl (lv_at hl 0 rfl) ?_
    refine mh_getI cx wd fl_X12_226 dX12_apart_179 hX (fun v30 hX => ?_)
    refine lv_icmp_ge (tgt := 326) hx hb dX12_apart_182 rfl (fun hc => (fun hX => ?_) ((mh_if hX).1 hc)) (fun hc => (fun hX => ?_) ((mh_if hX).2 hc))
    · exact w_X12_apart_b326 cx hr _ h _ _ ls wd (lv_sub hl [1] rfl) hX
    · refine lv_iconst (v := (-1)) hx hb dX12_apart_185 (by decide) ?_
      refine mh_topi hX (fun v31 hX => ?_)
      refine lv_istore (lv' := [(6, .int v31), (0, .ref o0), (4, .int x4), (5, .int x5)]) hx hb dX12_apart_186 hl (Nat.le_of_ble_eq_true rfl) rfl (fun ls hl => ?_)
      refine lv_iconst (v := 0) hx hb dX12_apart_188 (by decide) ?_
      refine mh_topi hX (fun v32 hX => ?_)
      refine lv_istore (lv' := [(7, .int v32), (6, .int v31), (0, .ref o0), (4, .int x4), (5, .int x5)]) hx hb dX12_apart_189 hl (Nat.le_of_ble_eq_true rfl) rfl (fun ls hl => ?_)
      exact w_X12_apart_b191 (f_X12_apart_b176 n) cx hr ih mh_fu _ _ _ _ _ h _ _ ls wd (lv_sub hl [2, 3, 4, 1, 0] rfl) hX
set_option maxRecDepth 100000 in
set_option maxHeartbeats 4000000 in
theorem w_X12_apart_b173 {p : Program} {l : Launch} {e : Env} {s : State} {m : MethodId} {args : Array Value} {below : List Frame} {meth : Method} {c : Code} {D : va_G} {ks : Nat → ClassId} {L : List Nat} {r : Int32} {h' : mh_H} (cx : mh_C p m c cX12_apart 8 s args RX12 meth D ks (mh_A L s.heap.size)) (hr : meth.sig.returnType = (some .int)) :
    ∀ (o0 : Nat) (x4 : Int32) (h : mh_H) (H : Heap) (locs : List Loc) (ls : Array Slot), mh_W D ks L (mh_A L s.heap.size) s.heap h H locs → lv_has ls 8 [(0, .ref o0), (4, .int x4)] → f_X12_apart_b173 o0 x4 h = some (r, h') → W p l e (mh_rm 22) s m args below meth c H locs 0 0 (MQ below (mh_Qi D ks L s.heap.size r h') args s 0 0 (mh_A L s.heap.size)) (F0 m 173 ls []) := by
  intro o0 x4 h H locs ls wd hl hX
  have hx := cx.1.1
  have hb := cx.1.2.1
  unfold f_X12_apart_b173 at hX
  refine lv_iconst (v := 1) hx hb dX12_apart_173 (by decide) ?_
  refine mh_topi hX (fun v33 hX => ?_)
  refine lv_istore (lv' := [(5, .int v33), (0, .ref o0), (4, .int x4)]) hx hb dX12_apart_174 hl (Nat.le_of_ble_eq_true rfl) rfl (fun ls hl => ?_)
  exact w_X12_apart_b176 cx hr mh_fu _ _ _ h _ _ ls wd (lv_sub hl [1, 2, 0] rfl) hX
set_option maxRecDepth 100000 in
set_option maxHeartbeats 4000000 in
theorem w_X12_apart_b135 {p : Program} {l : Launch} {e : Env} {s : State} {m : MethodId} {args : Array Value} {below : List Frame} {meth : Method} {c : Code} {D : va_G} {ks : Nat → ClassId} {L : List Nat} {r : Int32} {h' : mh_H} (cx : mh_C p m c cX12_apart 8 s args RX12 meth D ks (mh_A L s.heap.size)) (hr : meth.sig.returnType = (some .int)) :
    ∀ n : Nat, ∀ (o0 : Nat) (x4 : Int32) (x5 : Int32) (h : mh_H) (H : Heap) (locs : List Loc) (ls : Array Slot), mh_W D ks L (mh_A L s.heap.size) s.heap h H locs → lv_has ls 8 [(0, .ref o0), (4, .int x4), (5, .int x5)] → f_X12_apart_b135 n o0 x4 x5 h = some (r, h') → W p l e (mh_rm 22) s m args below meth c H locs 0 0 (MQ below (mh_Qi D ks L s.heap.size r h') args s 0 0 (mh_A L s.heap.size)) (F0 m 135 ls []) := by
  intro n
  induction n with
  | zero =>
    intro o0 x4 x5 h H locs ls wd hl hX
    cases hX
  | succ n ih =>
    intro o0 x4 x5 h H locs ls wd hl hX
    have hx := cx.1.1
    have hb := cx.1.2.1
    rw [f_X12_apart_b135] at hX
    refine lv_iload hx hb dX12_apart_135 (lv_at hl 2 rfl) ?_
    refine lv_aload_n hx hb dX12_apart_137 rfl (lv_at hl 0 rfl) ?_
    refine mh_getI cx wd fl_X12_226 dX12_apart_138 hX (fun v34 hX => ?_)
    refine lv_icmp_ge (tgt := 173) hx hb dX12_apart_141 rfl (fun hc => (fun hX => ?_) ((mh_if hX).1 hc)) (fun hc => (fun hX => ?_) ((mh_if hX).2 hc))
    · exact w_X12_apart_b173 cx hr _ _ h _ _ ls wd (lv_sub hl [0, 1] rfl) hX
    · refine lv_aload_n hx hb dX12_apart_144 rfl (lv_at hl 0 rfl) ?_
      refine mh_getR cx wd fl_X12_60 dX12_apart_145 hX (fun a35 hX => ?_)
      refine lv_iload hx hb dX12_apart_148 (lv_at hl 2 rfl) ?_
      refine lv_iload hx hb dX12_apart_150 (lv_at hl 2 rfl) ?_
      refine lv_if_ne (tgt := 159) hx hb dX12_apart_152 rfl (fun hc => (fun hX => ?_) ((mh_if hX).2 hc)) (fun hc => (fun hX => ?_) ((mh_if hX).1 hc))
      · refine lv_aload_n hx hb dX12_apart_159 rfl (lv_at hl 0 rfl) ?_
        refine lv_iconst (v := 0) hx hb dX12_apart_160 (by decide) ?_
        refine lv_iload hx hb dX12_apart_161 (lv_at hl 2 rfl) ?_
        refine mh_callVI cx wd [.int (0 : Int32), .int x5] (rfl : vwCl[12]? = some (RX12, TX12, 38)) yw_X12_differ vw_X12_238 rfl hl.1 rfl (Nat.le_of_ble_eq_true rfl) dX12_apart_163 ⟨Nat.le_of_ble_eq_true rfl, Nat.le_of_ble_eq_true rfl⟩ ⟨Nat.le_refl _, Nat.le_refl _⟩ (fun _ _ q => c_X12_differ q) hX (fun v37 h36 H locs wd hX => ?_)
        exact w_X12_apart_b166 (f_X12_apart_b135 n) cx hr ih _ _ _ _ _ _ h36 _ _ ls wd (lv_sub hl [0, 1, 2] rfl) hX
      · refine lv_iconst (v := (-1)) hx hb dX12_apart_155 (by decide) ?_
        refine lv_goto (tgt := 166) hx hb dX12_apart_156 rfl ?_
        exact w_X12_apart_b166 (f_X12_apart_b135 n) cx hr ih _ _ _ _ _ _ h _ _ ls wd (lv_sub hl [0, 1, 2] rfl) hX
set_option maxRecDepth 100000 in
set_option maxHeartbeats 4000000 in
theorem w_X12_apart_b122 {p : Program} {l : Launch} {e : Env} {s : State} {m : MethodId} {args : Array Value} {below : List Frame} {meth : Method} {c : Code} {D : va_G} {ks : Nat → ClassId} {L : List Nat} {r : Int32} {h' : mh_H} (cx : mh_C p m c cX12_apart 8 s args RX12 meth D ks (mh_A L s.heap.size)) (hr : meth.sig.returnType = (some .int)) :
    ∀ (o0 : Nat) (x1 : Int32) (x2 : Int32) (x3 : Int32) (h : mh_H) (H : Heap) (locs : List Loc) (ls : Array Slot), mh_W D ks L (mh_A L s.heap.size) s.heap h H locs → lv_has ls 8 [(0, .ref o0), (1, .int x1), (2, .int x2), (3, .int x3)] → f_X12_apart_b122 o0 x1 x2 x3 h = some (r, h') → W p l e (mh_rm 22) s m args below meth c H locs 0 0 (MQ below (mh_Qi D ks L s.heap.size r h') args s 0 0 (mh_A L s.heap.size)) (F0 m 122 ls []) := by
  intro o0 x1 x2 x3 h H locs ls wd hl hX
  have hx := cx.1.1
  have hb := cx.1.2.1
  unfold f_X12_apart_b122 at hX
  refine lv_aload_n hx hb dX12_apart_122 rfl (lv_at hl 0 rfl) ?_
  refine lv_iload_n hx hb dX12_apart_123 rfl (lv_at hl 1 rfl) ?_
  refine lv_iload_n hx hb dX12_apart_124 rfl (lv_at hl 3 rfl) ?_
  refine lv_iload_n hx hb dX12_apart_125 rfl (lv_at hl 2 rfl) ?_
  refine mh_callVV cx wd [.int x1, .int x3, .int x2] (rfl : vwCl[12]? = some (RX12, TX12, 38)) yw_X12_list vw_X12_229 rfl hl.1 rfl (Nat.le_of_ble_eq_true rfl) dX12_apart_126 ⟨Nat.le_of_ble_eq_true rfl, Nat.le_of_ble_eq_true rfl⟩ ⟨Nat.le_refl _, Nat.le_refl _⟩ (fun _ q => c_X12_list_d 20 q) hX (fun h38 H locs wd hX => ?_)
  refine lv_iconst (v := 0) hx hb dX12_apart_129 (by decide) ?_
  refine mh_topi hX (fun v39 hX => ?_)
  refine lv_istore (lv' := [(4, .int v39), (0, .ref o0), (1, .int x1), (2, .int x2), (3, .int x3)]) hx hb dX12_apart_130 hl (Nat.le_of_ble_eq_true rfl) rfl (fun ls hl => ?_)
  refine lv_iconst (v := 0) hx hb dX12_apart_132 (by decide) ?_
  refine mh_topi hX (fun v40 hX => ?_)
  refine lv_istore (lv' := [(5, .int v40), (4, .int v39), (0, .ref o0), (1, .int x1), (2, .int x2), (3, .int x3)]) hx hb dX12_apart_133 hl (Nat.le_of_ble_eq_true rfl) rfl (fun ls hl => ?_)
  exact w_X12_apart_b135 cx hr mh_fu _ _ _ h38 _ _ ls wd (lv_sub hl [2, 1, 0] rfl) hX
set_option maxRecDepth 100000 in
set_option maxHeartbeats 4000000 in
theorem w_X12_apart_b101 {p : Program} {l : Launch} {e : Env} {s : State} {m : MethodId} {args : Array Value} {below : List Frame} {meth : Method} {c : Code} {D : va_G} {ks : Nat → ClassId} {L : List Nat} {r : Int32} {h' : mh_H} (cx : mh_C p m c cX12_apart 8 s args RX12 meth D ks (mh_A L s.heap.size)) (hr : meth.sig.returnType = (some .int)) :
    ∀ n : Nat, ∀ (o0 : Nat) (x1 : Int32) (x2 : Int32) (x3 : Int32) (x4 : Int32) (h : mh_H) (H : Heap) (locs : List Loc) (ls : Array Slot), mh_W D ks L (mh_A L s.heap.size) s.heap h H locs → lv_has ls 8 [(0, .ref o0), (1, .int x1), (2, .int x2), (3, .int x3), (4, .int x4)] → f_X12_apart_b101 n o0 x1 x2 x3 x4 h = some (r, h') → W p l e (mh_rm 22) s m args below meth c H locs 0 0 (MQ below (mh_Qi D ks L s.heap.size r h') args s 0 0 (mh_A L s.heap.size)) (F0 m 101 ls []) := by
  intro n
  induction n with
  | zero =>
    intro o0 x1 x2 x3 x4 h H locs ls wd hl hX
    cases hX
  | succ n ih =>
    intro o0 x1 x2 x3 x4 h H locs ls wd hl hX
    have hx := cx.1.1
    have hb := cx.1.2.1
    rw [f_X12_apart_b101] at hX
    refine lv_iload hx hb dX12_apart_101 (lv_at hl 4 rfl) ?_
    refine lv_bipush (v := 12) hx hb dX12_apart_103 (by decide) ?_
    refine lv_icmp_ge (tgt := 122) hx hb dX12_apart_105 rfl (fun hc => (fun hX => ?_) ((mh_if hX).1 hc)) (fun hc => (fun hX => ?_) ((mh_if hX).2 hc))
    · exact w_X12_apart_b122 cx hr _ _ _ _ h _ _ ls wd (lv_sub hl [0, 1, 2, 3] rfl) hX
    · refine lv_aload_n hx hb dX12_apart_108 rfl (lv_at hl 0 rfl) ?_
      refine mh_getR cx wd fl_X12_57 dX12_apart_109 hX (fun a41 hX => ?_)
      refine lv_iload hx hb dX12_apart_112 (lv_at hl 4 rfl) ?_
      refine lv_iconst (v := 0) hx hb dX12_apart_114 (by decide) ?_
      refine mh_iast cx wd dX12_apart_115 hX (fun h42 H locs wd hX => ?_)
      obtain ⟨v43, ev43, hX⟩ := mh_nmx hX
      refine lv_iinc (k := 4) (v := v43) (lv' := [(4, .int v43), (0, .ref o0), (1, .int x1), (2, .int x2), (3, .int x3)]) hx hb dX12_apart_116 hl rfl ev43 (Nat.le_of_ble_eq_true rfl) rfl (fun ls hl => ?_)
      refine lv_goto (tgt := 101) hx hb dX12_apart_119 rfl ?_
      exact ih _ _ _ _ _ h42 _ _ ls wd (lv_sub hl [1, 2, 3, 4, 0] rfl) hX
set_option maxRecDepth 100000 in
set_option maxHeartbeats 4000000 in
theorem w_X12_apart_e {p : Program} {l : Launch} {e : Env} {s : State} {m : MethodId} {args : Array Value} {below : List Frame} {meth : Method} {c : Code} {D : va_G} {ks : Nat → ClassId} {L : List Nat} {r : Int32} {h' : mh_H} (cx : mh_C p m c cX12_apart 8 s args RX12 meth D ks (mh_A L s.heap.size)) (hr : meth.sig.returnType = (some .int)) :
    ∀ (o0 : Nat) (x1 : Int32) (x2 : Int32) (h : mh_H) (H : Heap) (locs : List Loc) (ls : Array Slot), mh_W D ks L (mh_A L s.heap.size) s.heap h H locs → lv_has ls 8 [(0, .ref o0), (1, .int x1), (2, .int x2)] → f_X12_apart_e o0 x1 x2 h = some (r, h') → W p l e (mh_rm 22) s m args below meth c H locs 0 0 (MQ below (mh_Qi D ks L s.heap.size r h') args s 0 0 (mh_A L s.heap.size)) (F0 m 0 ls []) := by
  intro o0 x1 x2 h H locs ls wd hl hX
  have hx := cx.1.1
  have hb := cx.1.2.1
  unfold f_X12_apart_e at hX
  refine lv_aload_n hx hb dX12_apart_0 rfl (lv_at hl 0 rfl) ?_
  refine lv_iconst (v := 0) hx hb dX12_apart_1 (by decide) ?_
  refine mh_putI cx wd fp_X12_96 dX12_apart_2 hX (fun h44 H locs wd hX => ?_)
  refine lv_iload_n hx hb dX12_apart_5 rfl (lv_at hl 1 rfl) ?_
  refine mh_callSI cx wd [.int x1] yw_X12_isMint sw_X12_111 rfl hl.1 rfl (Nat.le_of_ble_eq_true rfl) dX12_apart_6 ⟨Nat.le_of_ble_eq_true rfl, Nat.le_of_ble_eq_true rfl⟩ ⟨Nat.le_refl _, Nat.le_refl _⟩ (fun _ _ q => c_X12_isMint q) hX (fun v46 h45 H locs wd hX => ?_)
  refine lv_if_ne (tgt := 18) hx hb dX12_apart_9 rfl (fun hc => (fun hX => ?_) ((mh_if hX).2 hc)) (fun hc => (fun hX => ?_) ((mh_if hX).1 hc))
  · refine lv_iload_n hx hb dX12_apart_18 rfl (lv_at hl 2 rfl) ?_
    refine lv_if_lt (tgt := 29) hx hb dX12_apart_19 rfl (fun hc => (fun hX => ?_) ((mh_if hX).1 hc)) (fun hc => (fun hX => ?_) ((mh_if hX).2 hc))
    · exact w_X12_apart_b29 cx hr _ h45 _ _ ls wd (lv_sub hl [0] rfl) hX
    · refine lv_iload_n hx hb dX12_apart_22 rfl (lv_at hl 2 rfl) ?_
      refine lv_sipush (v := 3001) hx hb dX12_apart_23 (by decide) ?_
      refine lv_icmp_lt (tgt := 35) hx hb dX12_apart_26 rfl (fun hc => (fun hX => ?_) ((mh_if hX).1 hc)) (fun hc => (fun hX => ?_) ((mh_if hX).2 hc))
      · refine lv_aload_n hx hb dX12_apart_35 rfl (lv_at hl 0 rfl) ?_
        refine mh_getR cx wd fl_X12_9 dX12_apart_36 hX (fun a47 hX => ?_)
        refine lv_iload_n hx hb dX12_apart_39 rfl (lv_at hl 1 rfl) ?_
        refine mh_callSI cx wd [.int x1] yw_X12_mintAt sw_X12_115 rfl hl.1 rfl (Nat.le_of_ble_eq_true rfl) dX12_apart_40 ⟨Nat.le_of_ble_eq_true rfl, Nat.le_of_ble_eq_true rfl⟩ ⟨Nat.le_refl _, Nat.le_refl _⟩ (fun _ _ q => c_X12_mintAt q) hX (fun v49 h48 H locs wd hX => ?_)
        refine mh_iald cx wd dX12_apart_43 hX (fun v50 hX => ?_)
        refine lv_istore_n (lv' := [(3, .int v50), (0, .ref o0), (1, .int x1), (2, .int x2)]) hx hb dX12_apart_44 rfl hl (Nat.le_of_ble_eq_true rfl) rfl (fun ls hl => ?_)
        refine lv_aload_n hx hb dX12_apart_45 rfl (lv_at hl 1 rfl) ?_
        refine lv_aload_n hx hb dX12_apart_46 rfl (lv_at hl 1 rfl) ?_
        refine mh_getR cx wd fl_X12_9 dX12_apart_47 hX (fun a51 hX => ?_)
        refine lv_iload_n hx hb dX12_apart_50 rfl (lv_at hl 2 rfl) ?_
        refine mh_callSI cx wd [.int x1] yw_X12_mintAt sw_X12_115 rfl hl.1 rfl (Nat.le_of_ble_eq_true rfl) dX12_apart_51 ⟨Nat.le_of_ble_eq_true rfl, Nat.le_of_ble_eq_true rfl⟩ ⟨Nat.le_refl _, Nat.le_refl _⟩ (fun _ _ q => c_X12_mintAt q) hX (fun v53 h52 H locs wd hX => ?_)
        refine lv_iconst (v := 1) hx hb dX12_apart_54 (by decide) ?_
        refine lv_iadd hx hb dX12_apart_55 ?_
        refine lv_iload_n hx hb dX12_apart_56 rfl (lv_at hl 0 rfl) ?_
        refine mh_callVV cx wd [.ref a51, .int (v53 + (1 : Int32)), .int v50] (rfl : vwCl[12]? = some (RX12, TX12, 38)) yw_X12_count vw_X12_209 rfl hl.1 rfl (Nat.le_of_ble_eq_true rfl) dX12_apart_57 ⟨Nat.le_of_ble_eq_true rfl, Nat.le_of_ble_eq_true rfl⟩ ⟨Nat.le_refl _, Nat.le_refl _⟩ (fun _ q => c_X12_count q) hX (fun h54 H locs wd hX => ?_)
        refine lv_aload_n hx hb dX12_apart_60 rfl (lv_at hl 1 rfl) ?_
        refine mh_getR cx wd fl_X12_42 dX12_apart_61 hX (fun a55 hX => ?_)
        refine lv_iload_n hx hb dX12_apart_64 rfl (lv_at hl 0 rfl) ?_
        refine mh_aald cx wd 6 rfl rfl dX12_apart_65 hX (fun a56 hX => ?_)
        refine lv_iload_n hx hb dX12_apart_66 rfl (lv_at hl 3 rfl) ?_
        refine mh_lald cx wd dX12_apart_67 hX (fun w57 hX => ?_)
        refine lv_lconst (v := 0) hx hb dX12_apart_68 (by decide) ?_
        refine W.lcmp hx hb dX12_apart_69 ?_
        refine lv_if_ne (tgt := 75) hx hb dX12_apart_70 rfl (fun hc => (fun hX => ?_) ((mh_if hX).2 hc)) (fun hc => (fun hX => ?_) ((mh_if hX).1 hc))
        · refine lv_aload_n hx hb dX12_apart_75 rfl (lv_at hl 1 rfl) ?_
          refine mh_getR cx wd fl_X12_42 dX12_apart_76 hX (fun a58 hX => ?_)
          refine lv_iload_n hx hb dX12_apart_79 rfl (lv_at hl 0 rfl) ?_
          refine mh_aald cx wd 6 rfl rfl dX12_apart_80 hX (fun a59 hX => ?_)
          refine lv_iload_n hx hb dX12_apart_81 rfl (lv_at hl 3 rfl) ?_
          refine mh_lald cx wd dX12_apart_82 hX (fun w60 hX => ?_)
          refine mh_ldc2 cx kl_X12_236 dX12_apart_83 ?_
          refine W.lcmp hx hb dX12_apart_86 ?_
          refine lv_if_le (tgt := 93) hx hb dX12_apart_87 rfl (fun hc => (fun hX => ?_) ((mh_if hX).1 hc)) (fun hc => (fun hX => ?_) ((mh_if hX).2 hc))
          · refine lv_aload_n hx hb dX12_apart_93 rfl (lv_at hl 1 rfl) ?_
            refine lv_iconst (v := 0) hx hb dX12_apart_94 (by decide) ?_
            refine mh_putI cx wd fp_X12_226 dX12_apart_95 hX (fun h61 H locs wd hX => ?_)
            refine lv_iconst (v := 0) hx hb dX12_apart_98 (by decide) ?_
            refine mh_topi hX (fun v62 hX => ?_)
            refine lv_istore (lv' := [(4, .int v62), (3, .int v50), (0, .ref o0), (1, .int x1), (2, .int x2)]) hx hb dX12_apart_99 hl (Nat.le_of_ble_eq_true rfl) rfl (fun ls hl => ?_)
            exact w_X12_apart_b101 cx hr mh_fu _ _ _ _ _ h61 _ _ ls wd (lv_sub hl [2, 3, 4, 1, 0] rfl) hX
          · refine lv_bipush (v := (-2)) hx hb dX12_apart_90 (by decide) ?_
            exact mh_iret cx wd hr hX dX12_apart_92
        · refine lv_iconst (v := (-1)) hx hb dX12_apart_73 (by decide) ?_
          exact mh_iret cx wd hr hX dX12_apart_74
      · exact w_X12_apart_b29 cx hr _ h45 _ _ ls wd (lv_sub hl [0] rfl) hX
  · refine lv_aload_n hx hb dX12_apart_12 rfl (lv_at hl 0 rfl) ?_
    refine lv_iconst (v := 1) hx hb dX12_apart_13 (by decide) ?_
    refine mh_callVI cx wd [.int (1 : Int32)] (rfl : vwCl[12]? = some (RX12, TX12, 38)) yw_X12_fail vw_X12_122 rfl hl.1 rfl (Nat.le_of_ble_eq_true rfl) dX12_apart_14 ⟨Nat.le_of_ble_eq_true rfl, Nat.le_of_ble_eq_true rfl⟩ ⟨Nat.le_refl _, Nat.le_refl _⟩ (fun _ _ q => c_X12_fail q) hX (fun v64 h63 H locs wd hX => ?_)
    exact mh_iret cx wd hr hX dX12_apart_17
set_option maxRecDepth 100000 in
theorem c_X12_apart {l : Launch} {L : List Nat} {h h' : mh_H} {r : Int32} {o0 : Nat} {x1 : Int32} {x2 : Int32} (hX : f_X12_apart_e o0 x1 x2 h = some (r, h')) : mh_MI l yX12_apart (Cond.code yX12_apart cX12_apart 8 (some .int) :: mh_TB) (mh_rm 22) [.ref o0, .int x1, .int x2] L h r h' :=
  mh_of (mc := 0) (ms := 0) (Qc := fun D ks sz => mh_Qi D ks L sz r h') (plainFor_of_name (by decide)) (Nat.le_of_ble_eq_true rfl) (fun p e s m below meth c D ks ls hr cx wd hl => by
    have hl : lv_has ls 8 [(0, .ref o0), (1, .int x1), (2, .int x2)] := hl
    exact w_X12_apart_e cx hr o0 x1 x2 h _ _ ls wd hl hX)
def f_X12_best_b40 (o0 : Nat) (h : mh_H) : Option (Int32 × mh_H) :=
  mh_b2 (mh_cal h o0 12 (f_X12_fail_e o0 (2 : Int32) h)) fun v2 h1 =>
  some (v2, h1)
def f_X12_best_b132 (o0 : Nat) (x3 : Int32) (h : mh_H) : Option (Int32 × mh_H) :=
  mh_b2 (mh_cal h o0 12 (f_X12_becomes_e o0 x3 h)) fun v4 h3 =>
  (mh_gI h3 o0 12 26).bind fun v5 =>
  some (v5, h3)
def f_X12_best_b106 : Nat → Nat → Int32 → Int32 → Int32 → mh_H → Option (Int32 × mh_H)
  | 0, _, _, _, _, _ => none
  | n + 1, o0, x1, x3, x4, h =>
    if x1 ≤ x4 then (
    f_X12_best_b132 o0 x3 h) else
    (mh_gR h o0 12 13).bind fun a6 =>
    (mh_gR h o0 12 25).bind fun a7 =>
    (mh_aI h a7 0 x4).bind fun v8 =>
    (mh_sI h a6 x4 v8).bind fun h9 =>
    mh_nm (x4 + Int32.ofInt (1)) fun v10 =>
    f_X12_best_b106 n o0 x1 x3 v10 h9
def f_X12_best_e (o0 : Nat) (x1 : Int32) (x2 : Int32) (x3 : Int32) (h : mh_H) : Option (Int32 × mh_H) :=
  (mh_pI h o0 12 0 (0 : Int32)).bind fun h11 =>
  mh_b2 (f_X12_isMint_e x3 h11) fun v13 h12 =>
  if v13 = 0 then (
  mh_b2 (mh_cal h12 o0 12 (f_X12_fail_e o0 (1 : Int32) h12)) fun v26 h25 =>
  some (v26, h25)) else
  if x1 < (1 : Int32) then (
  f_X12_best_b40 o0 h12) else
  if (6 : Int32) < x1 then (
  f_X12_best_b40 o0 h12) else
  if x2 < (1 : Int32) then (
  f_X12_best_b40 o0 h12) else
  if x2 ≤ (12 : Int32) then (
  (mh_pI h12 o0 12 23 (0 : Int32)).bind fun h14 =>
  (mh_pI h14 o0 12 26 (0 : Int32)).bind fun h15 =>
  (mh_pI h15 o0 12 27 x1).bind fun h16 =>
  (mh_pI h16 o0 12 28 x2).bind fun h17 =>
  (mh_gR h17 o0 12 24).bind fun a18 =>
  (mh_sI h17 a18 (0 : Int32) (1 : Int32)).bind fun h19 =>
  (mh_cal h19 o0 12 (f_X12_search_d 20 o0 (1 : Int32) h19)).bind fun h20 =>
  (mh_gI h20 o0 12 23).bind fun v21 =>
  if v21 ≤ (2000 : Int32) then (
  (mh_pI h20 o0 12 14 x1).bind fun h22 =>
  mh_nm (0 : Int32) fun v23 =>
  f_X12_best_b106 mh_fu o0 x1 x3 v23 h22) else
  (mh_pI h20 o0 12 23 (2000 : Int32)).bind fun h24 =>
  some ((-2 : Int32), h24)) else
  f_X12_best_b40 o0 h12
set_option maxRecDepth 100000 in
set_option maxHeartbeats 4000000 in
theorem w_X12_best_b40 {p : Program} {l : Launch} {e : Env} {s : State} {m : MethodId} {args : Array Value} {below : List Frame} {meth : Method} {c : Code} {D : va_G} {ks : Nat → ClassId} {L : List Nat} {r : Int32} {h' : mh_H} (cx : mh_C p m c cX12_best 5 s args RX12 meth D ks (mh_A L s.heap.size)) (hr : meth.sig.returnType = (some .int)) :
    ∀ (o0 : Nat) (h : mh_H) (H : Heap) (locs : List Loc) (ls : Array Slot), mh_W D ks L (mh_A L s.heap.size) s.heap h H locs → lv_has ls 5 [(0, .ref o0)] → f_X12_best_b40 o0 h = some (r, h') → W p l e (mh_rm 23) s m args below meth c H locs 0 0 (MQ below (mh_Qi D ks L s.heap.size r h') args s 0 0 (mh_A L s.heap.size)) (F0 m 40 ls []) := by
  intro o0 h H locs ls wd hl hX
  have hx := cx.1.1
  have hb := cx.1.2.1
  unfold f_X12_best_b40 at hX
  refine lv_aload_n hx hb dX12_best_40 rfl (lv_at hl 0 rfl) ?_
  refine lv_iconst (v := 2) hx hb dX12_best_41 (by decide) ?_
  refine mh_callVI cx wd [.int (2 : Int32)] (rfl : vwCl[12]? = some (RX12, TX12, 38)) yw_X12_fail vw_X12_122 rfl hl.1 rfl (Nat.le_of_ble_eq_true rfl) dX12_best_42 ⟨Nat.le_of_ble_eq_true rfl, Nat.le_of_ble_eq_true rfl⟩ ⟨Nat.le_refl _, Nat.le_refl _⟩ (fun _ _ q => c_X12_fail q) hX (fun v2 h1 H locs wd hX => ?_)
  exact mh_iret cx wd hr hX dX12_best_45
set_option maxRecDepth 100000 in
set_option maxHeartbeats 4000000 in
theorem w_X12_best_b132 {p : Program} {l : Launch} {e : Env} {s : State} {m : MethodId} {args : Array Value} {below : List Frame} {meth : Method} {c : Code} {D : va_G} {ks : Nat → ClassId} {L : List Nat} {r : Int32} {h' : mh_H} (cx : mh_C p m c cX12_best 5 s args RX12 meth D ks (mh_A L s.heap.size)) (hr : meth.sig.returnType = (some .int)) :
    ∀ (o0 : Nat) (x3 : Int32) (h : mh_H) (H : Heap) (locs : List Loc) (ls : Array Slot), mh_W D ks L (mh_A L s.heap.size) s.heap h H locs → lv_has ls 5 [(0, .ref o0), (3, .int x3)] → f_X12_best_b132 o0 x3 h = some (r, h') → W p l e (mh_rm 23) s m args below meth c H locs 0 0 (MQ below (mh_Qi D ks L s.heap.size r h') args s 0 0 (mh_A L s.heap.size)) (F0 m 132 ls []) := by
  intro o0 x3 h H locs ls wd hl hX
  have hx := cx.1.1
  have hb := cx.1.2.1
  unfold f_X12_best_b132 at hX
  refine lv_aload_n hx hb dX12_best_132 rfl (lv_at hl 0 rfl) ?_
  refine lv_iload_n hx hb dX12_best_133 rfl (lv_at hl 1 rfl) ?_
  refine mh_callVI cx wd [.int x3] (rfl : vwCl[12]? = some (RX12, TX12, 38)) yw_X12_becomes vw_X12_190 rfl hl.1 rfl (Nat.le_of_ble_eq_true rfl) dX12_best_134 ⟨Nat.le_of_ble_eq_true rfl, Nat.le_of_ble_eq_true rfl⟩ ⟨Nat.le_refl _, Nat.le_refl _⟩ (fun _ _ q => c_X12_becomes q) hX (fun v4 h3 H locs wd hX => ?_)
  refine lv_pop hx hb dX12_best_137 rfl ?_
  refine lv_aload_n hx hb dX12_best_138 rfl (lv_at hl 0 rfl) ?_
  refine mh_getI cx wd fl_X12_254 dX12_best_139 hX (fun v5 hX => ?_)
  exact mh_iret cx wd hr hX dX12_best_142
set_option maxRecDepth 100000 in
set_option maxHeartbeats 4000000 in
theorem w_X12_best_b106 {p : Program} {l : Launch} {e : Env} {s : State} {m : MethodId} {args : Array Value} {below : List Frame} {meth : Method} {c : Code} {D : va_G} {ks : Nat → ClassId} {L : List Nat} {r : Int32} {h' : mh_H} (cx : mh_C p m c cX12_best 5 s args RX12 meth D ks (mh_A L s.heap.size)) (hr : meth.sig.returnType = (some .int)) :
    ∀ n : Nat, ∀ (o0 : Nat) (x1 : Int32) (x3 : Int32) (x4 : Int32) (h : mh_H) (H : Heap) (locs : List Loc) (ls : Array Slot), mh_W D ks L (mh_A L s.heap.size) s.heap h H locs → lv_has ls 5 [(0, .ref o0), (1, .int x1), (3, .int x3), (4, .int x4)] → f_X12_best_b106 n o0 x1 x3 x4 h = some (r, h') → W p l e (mh_rm 23) s m args below meth c H locs 0 0 (MQ below (mh_Qi D ks L s.heap.size r h') args s 0 0 (mh_A L s.heap.size)) (F0 m 106 ls []) := by
  intro n
  induction n with
  | zero =>
    intro o0 x1 x3 x4 h H locs ls wd hl hX
    cases hX
  | succ n ih =>
    intro o0 x1 x3 x4 h H locs ls wd hl hX
    have hx := cx.1.1
    have hb := cx.1.2.1
    rw [f_X12_best_b106] at hX
    refine lv_iload hx hb dX12_best_106 (lv_at hl 3 rfl) ?_
    refine lv_iload_n hx hb dX12_best_108 rfl (lv_at hl 1 rfl) ?_
    refine lv_icmp_ge (tgt := 132) hx hb dX12_best_109 rfl (fun hc => (fun hX => ?_) ((mh_if hX).1 hc)) (fun hc => (fun hX => ?_) ((mh_if hX).2 hc))
    · exact w_X12_best_b132 cx hr _ _ h _ _ ls wd (lv_sub hl [0, 2] rfl) hX
    · refine lv_aload_n hx hb dX12_best_112 rfl (lv_at hl 0 rfl) ?_
      refine mh_getR cx wd fl_X12_45 dX12_best_113 hX (fun a6 hX => ?_)
      refine lv_iload hx hb dX12_best_116 (lv_at hl 3 rfl) ?_
      refine lv_aload_n hx hb dX12_best_118 rfl (lv_at hl 0 rfl) ?_
      refine mh_getR cx wd fl_X12_66 dX12_best_119 hX (fun a7 hX => ?_)
      refine lv_iload hx hb dX12_best_122 (lv_at hl 3 rfl) ?_
      refine mh_iald cx wd dX12_best_124 hX (fun v8 hX => ?_)
      refine mh_iast cx wd dX12_best_125 hX (fun h9 H locs wd hX => ?_)
      obtain ⟨v10, ev10, hX⟩ := mh_nmx hX
      refine lv_iinc (k := 3) (v := v10) (lv' := [(4, .int v10), (0, .ref o0), (1, .int x1), (3, .int x3)]) hx hb dX12_best_126 hl rfl ev10 (Nat.le_of_ble_eq_true rfl) rfl (fun ls hl => ?_)
      refine lv_goto (tgt := 106) hx hb dX12_best_129 rfl ?_
      exact ih _ _ _ _ h9 _ _ ls wd (lv_sub hl [1, 2, 3, 0] rfl) hX
set_option maxRecDepth 100000 in
set_option maxHeartbeats 4000000 in
theorem w_X12_best_e {p : Program} {l : Launch} {e : Env} {s : State} {m : MethodId} {args : Array Value} {below : List Frame} {meth : Method} {c : Code} {D : va_G} {ks : Nat → ClassId} {L : List Nat} {r : Int32} {h' : mh_H} (cx : mh_C p m c cX12_best 5 s args RX12 meth D ks (mh_A L s.heap.size)) (hr : meth.sig.returnType = (some .int)) :
    ∀ (o0 : Nat) (x1 : Int32) (x2 : Int32) (x3 : Int32) (h : mh_H) (H : Heap) (locs : List Loc) (ls : Array Slot), mh_W D ks L (mh_A L s.heap.size) s.heap h H locs → lv_has ls 5 [(0, .ref o0), (1, .int x1), (2, .int x2), (3, .int x3)] → f_X12_best_e o0 x1 x2 x3 h = some (r, h') → W p l e (mh_rm 23) s m args below meth c H locs 0 0 (MQ below (mh_Qi D ks L s.heap.size r h') args s 0 0 (mh_A L s.heap.size)) (F0 m 0 ls []) := by
  intro o0 x1 x2 x3 h H locs ls wd hl hX
  have hx := cx.1.1
  have hb := cx.1.2.1
  unfold f_X12_best_e at hX
  refine lv_aload_n hx hb dX12_best_0 rfl (lv_at hl 0 rfl) ?_
  refine lv_iconst (v := 0) hx hb dX12_best_1 (by decide) ?_
  refine mh_putI cx wd fp_X12_96 dX12_best_2 hX (fun h11 H locs wd hX => ?_)
  refine lv_iload_n hx hb dX12_best_5 rfl (lv_at hl 3 rfl) ?_
  refine mh_callSI cx wd [.int x3] yw_X12_isMint sw_X12_111 rfl hl.1 rfl (Nat.le_of_ble_eq_true rfl) dX12_best_6 ⟨Nat.le_of_ble_eq_true rfl, Nat.le_of_ble_eq_true rfl⟩ ⟨Nat.le_refl _, Nat.le_refl _⟩ (fun _ _ q => c_X12_isMint q) hX (fun v13 h12 H locs wd hX => ?_)
  refine lv_if_ne (tgt := 18) hx hb dX12_best_9 rfl (fun hc => (fun hX => ?_) ((mh_if hX).2 hc)) (fun hc => (fun hX => ?_) ((mh_if hX).1 hc))
  · refine lv_iload_n hx hb dX12_best_18 rfl (lv_at hl 1 rfl) ?_
    refine lv_iconst (v := 1) hx hb dX12_best_19 (by decide) ?_
    refine lv_icmp_lt (tgt := 40) hx hb dX12_best_20 rfl (fun hc => (fun hX => ?_) ((mh_if hX).1 hc)) (fun hc => (fun hX => ?_) ((mh_if hX).2 hc))
    · exact w_X12_best_b40 cx hr _ h12 _ _ ls wd (lv_sub hl [0] rfl) hX
    · refine lv_iload_n hx hb dX12_best_23 rfl (lv_at hl 1 rfl) ?_
      refine lv_bipush (v := 6) hx hb dX12_best_24 (by decide) ?_
      refine lv_icmp_gt (tgt := 40) hx hb dX12_best_26 rfl (fun hc => (fun hX => ?_) ((mh_if hX).1 hc)) (fun hc => (fun hX => ?_) ((mh_if hX).2 hc))
      · exact w_X12_best_b40 cx hr _ h12 _ _ ls wd (lv_sub hl [0] rfl) hX
      · refine lv_iload_n hx hb dX12_best_29 rfl (lv_at hl 2 rfl) ?_
        refine lv_iconst (v := 1) hx hb dX12_best_30 (by decide) ?_
        refine lv_icmp_lt (tgt := 40) hx hb dX12_best_31 rfl (fun hc => (fun hX => ?_) ((mh_if hX).1 hc)) (fun hc => (fun hX => ?_) ((mh_if hX).2 hc))
        · exact w_X12_best_b40 cx hr _ h12 _ _ ls wd (lv_sub hl [0] rfl) hX
        · refine lv_iload_n hx hb dX12_best_34 rfl (lv_at hl 2 rfl) ?_
          refine lv_bipush (v := 12) hx hb dX12_best_35 (by decide) ?_
          refine lv_icmp_le (tgt := 46) hx hb dX12_best_37 rfl (fun hc => (fun hX => ?_) ((mh_if hX).1 hc)) (fun hc => (fun hX => ?_) ((mh_if hX).2 hc))
          · refine lv_aload_n hx hb dX12_best_46 rfl (lv_at hl 0 rfl) ?_
            refine lv_iconst (v := 0) hx hb dX12_best_47 (by decide) ?_
            refine mh_putI cx wd fp_X12_245 dX12_best_48 hX (fun h14 H locs wd hX => ?_)
            refine lv_aload_n hx hb dX12_best_51 rfl (lv_at hl 0 rfl) ?_
            refine lv_iconst (v := 0) hx hb dX12_best_52 (by decide) ?_
            refine mh_putI cx wd fp_X12_254 dX12_best_53 hX (fun h15 H locs wd hX => ?_)
            refine lv_aload_n hx hb dX12_best_56 rfl (lv_at hl 0 rfl) ?_
            refine lv_iload_n hx hb dX12_best_57 rfl (lv_at hl 1 rfl) ?_
            refine mh_putI cx wd fp_X12_251 dX12_best_58 hX (fun h16 H locs wd hX => ?_)
            refine lv_aload_n hx hb dX12_best_61 rfl (lv_at hl 0 rfl) ?_
            refine lv_iload_n hx hb dX12_best_62 rfl (lv_at hl 2 rfl) ?_
            refine mh_putI cx wd fp_X12_242 dX12_best_63 hX (fun h17 H locs wd hX => ?_)
            refine lv_aload_n hx hb dX12_best_66 rfl (lv_at hl 0 rfl) ?_
            refine mh_getR cx wd fl_X12_63 dX12_best_67 hX (fun a18 hX => ?_)
            refine lv_iconst (v := 0) hx hb dX12_best_70 (by decide) ?_
            refine lv_iconst (v := 1) hx hb dX12_best_71 (by decide) ?_
            refine mh_iast cx wd dX12_best_72 hX (fun h19 H locs wd hX => ?_)
            refine lv_aload_n hx hb dX12_best_73 rfl (lv_at hl 0 rfl) ?_
            refine lv_iconst (v := 1) hx hb dX12_best_74 (by decide) ?_
            refine mh_callVV cx wd [.int (1 : Int32)] (rfl : vwCl[12]? = some (RX12, TX12, 38)) yw_X12_search vw_X12_257 rfl hl.1 rfl (Nat.le_of_ble_eq_true rfl) dX12_best_75 ⟨Nat.le_of_ble_eq_true rfl, Nat.le_of_ble_eq_true rfl⟩ ⟨Nat.le_refl _, Nat.le_refl _⟩ (fun _ q => c_X12_search_d 20 q) hX (fun h20 H locs wd hX => ?_)
            refine lv_aload_n hx hb dX12_best_78 rfl (lv_at hl 0 rfl) ?_
            refine mh_getI cx wd fl_X12_245 dX12_best_79 hX (fun v21 hX => ?_)
            refine lv_sipush (v := 2000) hx hb dX12_best_82 (by decide) ?_
            refine lv_icmp_le (tgt := 98) hx hb dX12_best_85 rfl (fun hc => (fun hX => ?_) ((mh_if hX).1 hc)) (fun hc => (fun hX => ?_) ((mh_if hX).2 hc))
            · refine lv_aload_n hx hb dX12_best_98 rfl (lv_at hl 0 rfl) ?_
              refine lv_iload_n hx hb dX12_best_99 rfl (lv_at hl 1 rfl) ?_
              refine mh_putI cx wd fp_X12_181 dX12_best_100 hX (fun h22 H locs wd hX => ?_)
              refine lv_iconst (v := 0) hx hb dX12_best_103 (by decide) ?_
              refine mh_topi hX (fun v23 hX => ?_)
              refine lv_istore (lv' := [(4, .int v23), (0, .ref o0), (1, .int x1), (2, .int x2), (3, .int x3)]) hx hb dX12_best_104 hl (Nat.le_of_ble_eq_true rfl) rfl (fun ls hl => ?_)
              exact w_X12_best_b106 cx hr mh_fu _ _ _ _ h22 _ _ ls wd (lv_sub hl [1, 2, 4, 0] rfl) hX
            · refine lv_aload_n hx hb dX12_best_88 rfl (lv_at hl 0 rfl) ?_
              refine lv_sipush (v := 2000) hx hb dX12_best_89 (by decide) ?_
              refine mh_putI cx wd fp_X12_245 dX12_best_92 hX (fun h24 H locs wd hX => ?_)
              refine lv_bipush (v := (-2)) hx hb dX12_best_95 (by decide) ?_
              exact mh_iret cx wd hr hX dX12_best_97
          · exact w_X12_best_b40 cx hr _ h12 _ _ ls wd (lv_sub hl [0] rfl) hX
  · refine lv_aload_n hx hb dX12_best_12 rfl (lv_at hl 0 rfl) ?_
    refine lv_iconst (v := 1) hx hb dX12_best_13 (by decide) ?_
    refine mh_callVI cx wd [.int (1 : Int32)] (rfl : vwCl[12]? = some (RX12, TX12, 38)) yw_X12_fail vw_X12_122 rfl hl.1 rfl (Nat.le_of_ble_eq_true rfl) dX12_best_14 ⟨Nat.le_of_ble_eq_true rfl, Nat.le_of_ble_eq_true rfl⟩ ⟨Nat.le_refl _, Nat.le_refl _⟩ (fun _ _ q => c_X12_fail q) hX (fun v26 h25 H locs wd hX => ?_)
    exact mh_iret cx wd hr hX dX12_best_17
set_option maxRecDepth 100000 in
theorem c_X12_best {l : Launch} {L : List Nat} {h h' : mh_H} {r : Int32} {o0 : Nat} {x1 : Int32} {x2 : Int32} {x3 : Int32} (hX : f_X12_best_e o0 x1 x2 x3 h = some (r, h')) : mh_MI l yX12_best (Cond.code yX12_best cX12_best 5 (some .int) :: mh_TB) (mh_rm 23) [.ref o0, .int x1, .int x2, .int x3] L h r h' :=
  mh_of (mc := 0) (ms := 0) (Qc := fun D ks sz => mh_Qi D ks L sz r h') (plainFor_of_name (by decide)) (Nat.le_of_ble_eq_true rfl) (fun p e s m below meth c D ks ls hr cx wd hl => by
    have hl : lv_has ls 5 [(0, .ref o0), (1, .int x1), (2, .int x2), (3, .int x3)] := hl
    exact w_X12_best_e cx hr o0 x1 x2 x3 h _ _ ls wd hl hX)
