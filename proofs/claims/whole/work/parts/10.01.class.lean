def f_X2_weightOf_e (o0 : Nat) (x1 : Int32) (h : mh_H) : Option (Int32 × mh_H) :=
  (mh_gR h o0 2 0).bind fun a1 =>
  mh_b2 (mh_cal h a1 1 (f_X1_greatest_e a1 h)) fun v3 h2 =>
  (mh_gR h2 o0 2 0).bind fun a4 =>
  mh_b2 (mh_cal h2 a4 1 (f_X1_value_e a4 x1 h2)) fun v6 h5 =>
  some ((((v3 - v6) * (1000 : Int32)) + (1 : Int32)), h5)
set_option maxRecDepth 100000 in
set_option maxHeartbeats 4000000 in
theorem w_X2_weightOf_e {p : Program} {l : Launch} {e : Env} {s : State} {m : MethodId} {args : Array Value} {below : List Frame} {meth : Method} {c : Code} {D : va_G} {ks : Nat → ClassId} {L : List Nat} {r : Int32} {h' : mh_H} (cx : mh_C p m c cX2_weightOf 2 s args RX2 meth D ks (mh_A L s.heap.size)) (hr : meth.sig.returnType = (some .int)) :
    ∀ (o0 : Nat) (x1 : Int32) (h : mh_H) (H : Heap) (locs : List Loc) (ls : Array Slot), mh_W D ks L (mh_A L s.heap.size) s.heap h H locs → lv_has ls 2 [(0, .ref o0), (1, .int x1)] → f_X2_weightOf_e o0 x1 h = some (r, h') → W p l e (mh_rm 2) s m args below meth c H locs 0 0 (MQ below (mh_Qi D ks L s.heap.size r h') args s 0 0 (mh_A L s.heap.size)) (F0 m 0 ls []) := by
  intro o0 x1 h H locs ls wd hl hX
  have hx := cx.1.1
  have hb := cx.1.2.1
  unfold f_X2_weightOf_e at hX
  refine lv_aload_n hx hb dX2_weightOf_0 rfl (lv_at hl 0 rfl) ?_
  refine mh_getR cx wd fl_X2_12 dX2_weightOf_1 hX (fun a1 hX => ?_)
  refine mh_callVI cx wd [] (rfl : vwCl[1]? = some (RX1, TX1, 2)) yw_X1_greatest vw_X2_57 rfl hl.1 rfl (Nat.le_of_ble_eq_true rfl) dX2_weightOf_4 ⟨Nat.le_of_ble_eq_true rfl, Nat.le_of_ble_eq_true rfl⟩ ⟨Nat.le_refl _, Nat.le_refl _⟩ (fun _ _ q => c_X1_greatest q) hX (fun v3 h2 H locs wd hX => ?_)
  refine lv_aload_n hx hb dX2_weightOf_7 rfl (lv_at hl 0 rfl) ?_
  refine mh_getR cx wd fl_X2_12 dX2_weightOf_8 hX (fun a4 hX => ?_)
  refine lv_iload_n hx hb dX2_weightOf_11 rfl (lv_at hl 1 rfl) ?_
  refine mh_callVI cx wd [.int x1] (rfl : vwCl[1]? = some (RX1, TX1, 2)) yw_X1_value vw_X2_54 rfl hl.1 rfl (Nat.le_of_ble_eq_true rfl) dX2_weightOf_12 ⟨Nat.le_of_ble_eq_true rfl, Nat.le_of_ble_eq_true rfl⟩ ⟨Nat.le_refl _, Nat.le_refl _⟩ (fun _ _ q => c_X1_value q) hX (fun v6 h5 H locs wd hX => ?_)
  refine lv_isub hx hb dX2_weightOf_15 ?_
  refine lv_sipush (v := 1000) hx hb dX2_weightOf_16 (by decide) ?_
  refine lv_imul hx hb dX2_weightOf_19 ?_
  refine lv_iconst (v := 1) hx hb dX2_weightOf_20 (by decide) ?_
  refine lv_iadd hx hb dX2_weightOf_21 ?_
  exact mh_iret cx wd hr hX dX2_weightOf_22
set_option maxRecDepth 100000 in
theorem c_X2_weightOf {l : Launch} {L : List Nat} {h h' : mh_H} {r : Int32} {o0 : Nat} {x1 : Int32} (hX : f_X2_weightOf_e o0 x1 h = some (r, h')) : mh_MI l yX2_weightOf (Cond.code yX2_weightOf cX2_weightOf 2 (some .int) :: mh_TB) (mh_rm 2) [.ref o0, .int x1] L h r h' :=
  mh_of (mc := 0) (ms := 0) (Qc := fun D ks sz => mh_Qi D ks L sz r h') (plainFor_of_name (by decide)) (Nat.le_of_ble_eq_true rfl) (fun p e s m below meth c D ks ls hr cx wd hl => by
    have hl : lv_has ls 2 [(0, .ref o0), (1, .int x1)] := hl
    exact w_X2_weightOf_e cx hr o0 x1 h _ _ ls wd hl hX)
def f_X2_turn_b68 (h : mh_H) : Option mh_H :=
  some h
def f_X2_turn_b29 : Nat → Nat → Int32 → mh_H → Option mh_H
  | 0, _, _, _ => none
  | n + 1, o0, x1, h =>
    (mh_gR h o0 2 0).bind fun a1 =>
    mh_b2 (mh_cal h a1 1 (f_X1_count_e a1 h)) fun v3 h2 =>
    if (v3 - (1 : Int32)) ≤ x1 then (
    f_X2_turn_b68 h2) else
    (mh_gR h2 o0 2 2).bind fun a4 =>
    (mh_gR h2 o0 2 0).bind fun a5 =>
    mh_b2 (mh_cal h2 a5 1 (f_X1_value_e a5 x1 h2)) fun v7 h6 =>
    mh_b2 (mh_cal h6 o0 2 (f_X2_weightOf_e o0 x1 h6)) fun v9 h8 =>
    (mh_cal h8 a4 0 (f_X0_allow_e a4 v7 v9 h8)).bind fun h10 =>
    mh_nm (x1 + Int32.ofInt (1)) fun v11 =>
    f_X2_turn_b29 n o0 v11 h10
def f_X2_turn_e (o0 : Nat) (h : mh_H) : Option mh_H :=
  (mh_gI h o0 2 4).bind fun v12 =>
  if v12 = 0 then (
  (mh_pZ h o0 2 4 (1 : Int32)).bind fun h13 =>
  (mh_gR h13 o0 2 2).bind fun a14 =>
  (mh_gR h13 o0 2 0).bind fun a15 =>
  mh_b2 (mh_cal h13 a15 1 (f_X1_greatest_e a15 h13)) fun v17 h16 =>
  (mh_cal h16 a14 0 (f_X0_start_e a14 v17 h16)).bind fun h18 =>
  mh_nm (0 : Int32) fun v19 =>
  f_X2_turn_b29 mh_fu o0 v19 h18) else
  some h
set_option maxRecDepth 100000 in
set_option maxHeartbeats 4000000 in
theorem w_X2_turn_b68 {p : Program} {l : Launch} {e : Env} {s : State} {m : MethodId} {args : Array Value} {below : List Frame} {meth : Method} {c : Code} {D : va_G} {ks : Nat → ClassId} {L : List Nat} {h' : mh_H} (cx : mh_C p m c cX2_turn 2 s args RX2 meth D ks (mh_A L s.heap.size)) (hr : meth.sig.returnType = none) :
    ∀ (h : mh_H) (H : Heap) (locs : List Loc) (ls : Array Slot), mh_W D ks L (mh_A L s.heap.size) s.heap h H locs → lv_has ls 2 [] → f_X2_turn_b68  h = some h' → W p l e (mh_rm 3) s m args below meth c H locs 0 0 (MQ below (mh_Qv D ks L s.heap.size h') args s 0 0 (mh_A L s.heap.size)) (F0 m 68 ls []) := by
  intro  h H locs ls wd hl hX
  have hx := cx.1.1
  have hb := cx.1.2.1
  unfold f_X2_turn_b68 at hX
  exact mh_vret cx wd hr hX dX2_turn_68
set_option maxRecDepth 100000 in
set_option maxHeartbeats 4000000 in
theorem w_X2_turn_b29 {p : Program} {l : Launch} {e : Env} {s : State} {m : MethodId} {args : Array Value} {below : List Frame} {meth : Method} {c : Code} {D : va_G} {ks : Nat → ClassId} {L : List Nat} {h' : mh_H} (cx : mh_C p m c cX2_turn 2 s args RX2 meth D ks (mh_A L s.heap.size)) (hr : meth.sig.returnType = none) :
    ∀ n : Nat, ∀ (o0 : Nat) (x1 : Int32) (h : mh_H) (H : Heap) (locs : List Loc) (ls : Array Slot), mh_W D ks L (mh_A L s.heap.size) s.heap h H locs → lv_has ls 2 [(0, .ref o0), (1, .int x1)] → f_X2_turn_b29 n o0 x1 h = some h' → W p l e (mh_rm 3) s m args below meth c H locs 0 0 (MQ below (mh_Qv D ks L s.heap.size h') args s 0 0 (mh_A L s.heap.size)) (F0 m 29 ls []) := by
  intro n
  induction n with
  | zero =>
    intro o0 x1 h H locs ls wd hl hX
    cases hX
  | succ n ih =>
    intro o0 x1 h H locs ls wd hl hX
    have hx := cx.1.1
    have hb := cx.1.2.1
    rw [f_X2_turn_b29] at hX
    refine lv_iload_n hx hb dX2_turn_29 rfl (lv_at hl 1 rfl) ?_
    refine lv_aload_n hx hb dX2_turn_30 rfl (lv_at hl 0 rfl) ?_
    refine mh_getR cx wd fl_X2_12 dX2_turn_31 hX (fun a1 hX => ?_)
    refine mh_callVI cx wd [] (rfl : vwCl[1]? = some (RX1, TX1, 2)) yw_X1_count vw_X2_50 rfl hl.1 rfl (Nat.le_of_ble_eq_true rfl) dX2_turn_34 ⟨Nat.le_of_ble_eq_true rfl, Nat.le_of_ble_eq_true rfl⟩ ⟨Nat.le_refl _, Nat.le_refl _⟩ (fun _ _ q => c_X1_count q) hX (fun v3 h2 H locs wd hX => ?_)
    refine lv_iconst (v := 1) hx hb dX2_turn_37 (by decide) ?_
    refine lv_isub hx hb dX2_turn_38 ?_
    refine lv_icmp_ge (tgt := 68) hx hb dX2_turn_39 rfl (fun hc => (fun hX => ?_) ((mh_if hX).1 hc)) (fun hc => (fun hX => ?_) ((mh_if hX).2 hc))
    · exact w_X2_turn_b68 cx hr  h2 _ _ ls wd (lv_sub hl [] rfl) hX
    · refine lv_aload_n hx hb dX2_turn_42 rfl (lv_at hl 0 rfl) ?_
      refine mh_getR cx wd fl_X2_26 dX2_turn_43 hX (fun a4 hX => ?_)
      refine lv_aload_n hx hb dX2_turn_46 rfl (lv_at hl 0 rfl) ?_
      refine mh_getR cx wd fl_X2_12 dX2_turn_47 hX (fun a5 hX => ?_)
      refine lv_iload_n hx hb dX2_turn_50 rfl (lv_at hl 1 rfl) ?_
      refine mh_callVI cx wd [.int x1] (rfl : vwCl[1]? = some (RX1, TX1, 2)) yw_X1_value vw_X2_54 rfl hl.1 rfl (Nat.le_of_ble_eq_true rfl) dX2_turn_51 ⟨Nat.le_of_ble_eq_true rfl, Nat.le_of_ble_eq_true rfl⟩ ⟨Nat.le_refl _, Nat.le_refl _⟩ (fun _ _ q => c_X1_value q) hX (fun v7 h6 H locs wd hX => ?_)
      refine lv_aload_n hx hb dX2_turn_54 rfl (lv_at hl 0 rfl) ?_
      refine lv_iload_n hx hb dX2_turn_55 rfl (lv_at hl 1 rfl) ?_
      refine mh_callVI cx wd [.int x1] (rfl : vwCl[2]? = some (RX2, TX2, 5)) yw_X2_weightOf vw_X2_64 rfl hl.1 rfl (Nat.le_of_ble_eq_true rfl) dX2_turn_56 ⟨Nat.le_of_ble_eq_true rfl, Nat.le_of_ble_eq_true rfl⟩ ⟨Nat.le_refl _, Nat.le_refl _⟩ (fun _ _ q => c_X2_weightOf q) hX (fun v9 h8 H locs wd hX => ?_)
      refine mh_callVV cx wd [.int v7, .int v9] (rfl : vwCl[0]? = some (RX0, TX0, 2)) yw_X0_allow vw_X2_67 rfl hl.1 rfl (Nat.le_of_ble_eq_true rfl) dX2_turn_59 ⟨Nat.le_of_ble_eq_true rfl, Nat.le_of_ble_eq_true rfl⟩ ⟨Nat.le_refl _, Nat.le_refl _⟩ (fun _ q => c_X0_allow q) hX (fun h10 H locs wd hX => ?_)
      obtain ⟨v11, ev11, hX⟩ := mh_nmx hX
      refine lv_iinc (k := 1) (v := v11) (lv' := [(1, .int v11), (0, .ref o0)]) hx hb dX2_turn_62 hl rfl ev11 (Nat.le_of_ble_eq_true rfl) rfl (fun ls hl => ?_)
      refine lv_goto (tgt := 29) hx hb dX2_turn_65 rfl ?_
      exact ih _ _ h10 _ _ ls wd (lv_sub hl [1, 0] rfl) hX
set_option maxRecDepth 100000 in
set_option maxHeartbeats 4000000 in
theorem w_X2_turn_e {p : Program} {l : Launch} {e : Env} {s : State} {m : MethodId} {args : Array Value} {below : List Frame} {meth : Method} {c : Code} {D : va_G} {ks : Nat → ClassId} {L : List Nat} {h' : mh_H} (cx : mh_C p m c cX2_turn 2 s args RX2 meth D ks (mh_A L s.heap.size)) (hr : meth.sig.returnType = none) :
    ∀ (o0 : Nat) (h : mh_H) (H : Heap) (locs : List Loc) (ls : Array Slot), mh_W D ks L (mh_A L s.heap.size) s.heap h H locs → lv_has ls 2 [(0, .ref o0)] → f_X2_turn_e o0 h = some h' → W p l e (mh_rm 3) s m args below meth c H locs 0 0 (MQ below (mh_Qv D ks L s.heap.size h') args s 0 0 (mh_A L s.heap.size)) (F0 m 0 ls []) := by
  intro o0 h H locs ls wd hl hX
  have hx := cx.1.1
  have hb := cx.1.2.1
  unfold f_X2_turn_e at hX
  refine lv_aload_n hx hb dX2_turn_0 rfl (lv_at hl 0 rfl) ?_
  refine mh_getI cx wd fl_X2_34 dX2_turn_1 hX (fun v12 hX => ?_)
  refine lv_if_eq (tgt := 8) hx hb dX2_turn_4 rfl (fun hc => (fun hX => ?_) ((mh_if hX).1 hc)) (fun hc => (fun hX => ?_) ((mh_if hX).2 hc))
  · refine lv_aload_n hx hb dX2_turn_8 rfl (lv_at hl 0 rfl) ?_
    refine lv_iconst (v := 1) hx hb dX2_turn_9 (by decide) ?_
    refine mh_putZ cx wd fp_X2_34 dX2_turn_10 hX (fun h13 H locs wd hX => ?_)
    refine lv_aload_n hx hb dX2_turn_13 rfl (lv_at hl 0 rfl) ?_
    refine mh_getR cx wd fl_X2_26 dX2_turn_14 hX (fun a14 hX => ?_)
    refine lv_aload_n hx hb dX2_turn_17 rfl (lv_at hl 0 rfl) ?_
    refine mh_getR cx wd fl_X2_12 dX2_turn_18 hX (fun a15 hX => ?_)
    refine mh_callVI cx wd [] (rfl : vwCl[1]? = some (RX1, TX1, 2)) yw_X1_greatest vw_X2_57 rfl hl.1 rfl (Nat.le_of_ble_eq_true rfl) dX2_turn_21 ⟨Nat.le_of_ble_eq_true rfl, Nat.le_of_ble_eq_true rfl⟩ ⟨Nat.le_refl _, Nat.le_refl _⟩ (fun _ _ q => c_X1_greatest q) hX (fun v17 h16 H locs wd hX => ?_)
    refine mh_callVV cx wd [.int v17] (rfl : vwCl[0]? = some (RX0, TX0, 2)) yw_X0_start vw_X2_60 rfl hl.1 rfl (Nat.le_of_ble_eq_true rfl) dX2_turn_24 ⟨Nat.le_of_ble_eq_true rfl, Nat.le_of_ble_eq_true rfl⟩ ⟨Nat.le_refl _, Nat.le_refl _⟩ (fun _ q => c_X0_start q) hX (fun h18 H locs wd hX => ?_)
    refine lv_iconst (v := 0) hx hb dX2_turn_27 (by decide) ?_
    refine mh_topi hX (fun v19 hX => ?_)
    refine lv_istore_n (lv' := [(1, .int v19), (0, .ref o0)]) hx hb dX2_turn_28 rfl hl (Nat.le_of_ble_eq_true rfl) rfl (fun ls hl => ?_)
    exact w_X2_turn_b29 cx hr mh_fu _ _ h18 _ _ ls wd (lv_sub hl [1, 0] rfl) hX
  · exact mh_vret cx wd hr hX dX2_turn_7
set_option maxRecDepth 100000 in
theorem c_X2_turn {l : Launch} {L : List Nat} {h h' : mh_H} {o0 : Nat} (hX : f_X2_turn_e o0 h = some h') : mh_MV l yX2_turn (Cond.code yX2_turn cX2_turn 2 none :: mh_TB) (mh_rm 3) [.ref o0] L h h' :=
  mh_of (mc := 0) (ms := 0) (Qc := fun D ks sz => mh_Qv D ks L sz h') (plainFor_of_name (by decide)) (Nat.le_of_ble_eq_true rfl) (fun p e s m below meth c D ks ls hr cx wd hl => by
    have hl : lv_has ls 2 [(0, .ref o0)] := hl
    exact w_X2_turn_e cx hr o0 h _ _ ls wd hl hX)
def f_X2_lack_e (o0 : Nat) (x1 : Int32) (h : mh_H) : Option (Int32 × mh_H) :=
  (mh_gR h o0 2 2).bind fun a1 =>
  mh_b2 (mh_cal h a1 0 (f_X0_weight_e a1 x1 h)) fun v3 h2 =>
  mh_nz ((1000 : Int32) = 0) <|
  some ((v3 / (1000 : Int32)), h2)
set_option maxRecDepth 100000 in
set_option maxHeartbeats 4000000 in
theorem w_X2_lack_e {p : Program} {l : Launch} {e : Env} {s : State} {m : MethodId} {args : Array Value} {below : List Frame} {meth : Method} {c : Code} {D : va_G} {ks : Nat → ClassId} {L : List Nat} {r : Int32} {h' : mh_H} (cx : mh_C p m c cX2_lack 2 s args RX2 meth D ks (mh_A L s.heap.size)) (hr : meth.sig.returnType = (some .int)) :
    ∀ (o0 : Nat) (x1 : Int32) (h : mh_H) (H : Heap) (locs : List Loc) (ls : Array Slot), mh_W D ks L (mh_A L s.heap.size) s.heap h H locs → lv_has ls 2 [(0, .ref o0), (1, .int x1)] → f_X2_lack_e o0 x1 h = some (r, h') → W p l e (mh_rm 1) s m args below meth c H locs 0 0 (MQ below (mh_Qi D ks L s.heap.size r h') args s 0 0 (mh_A L s.heap.size)) (F0 m 0 ls []) := by
  intro o0 x1 h H locs ls wd hl hX
  have hx := cx.1.1
  have hb := cx.1.2.1
  unfold f_X2_lack_e at hX
  refine lv_aload_n hx hb dX2_lack_0 rfl (lv_at hl 0 rfl) ?_
  refine mh_getR cx wd fl_X2_26 dX2_lack_1 hX (fun a1 hX => ?_)
  refine lv_iload_n hx hb dX2_lack_4 rfl (lv_at hl 1 rfl) ?_
  refine mh_callVI cx wd [.int x1] (rfl : vwCl[0]? = some (RX0, TX0, 2)) yw_X0_weight vw_X2_71 rfl hl.1 rfl (Nat.le_of_ble_eq_true rfl) dX2_lack_5 ⟨Nat.le_of_ble_eq_true rfl, Nat.le_of_ble_eq_true rfl⟩ ⟨Nat.le_refl _, Nat.le_refl _⟩ (fun _ _ q => c_X0_weight q) hX (fun v3 h2 H locs wd hX => ?_)
  refine lv_sipush (v := 1000) hx hb dX2_lack_8 (by decide) ?_
  obtain ⟨hz, hX⟩ := mh_nzk hX
  refine lv_idiv hx hb dX2_lack_11 hz ?_
  exact mh_iret cx wd hr hX dX2_lack_12
set_option maxRecDepth 100000 in
theorem c_X2_lack {l : Launch} {L : List Nat} {h h' : mh_H} {r : Int32} {o0 : Nat} {x1 : Int32} (hX : f_X2_lack_e o0 x1 h = some (r, h')) : mh_MI l yX2_lack (Cond.code yX2_lack cX2_lack 2 (some .int) :: mh_TB) (mh_rm 1) [.ref o0, .int x1] L h r h' :=
  mh_of (mc := 0) (ms := 0) (Qc := fun D ks sz => mh_Qi D ks L sz r h') (plainFor_of_name (by decide)) (Nat.le_of_ble_eq_true rfl) (fun p e s m below meth c D ks ls hr cx wd hl => by
    have hl : lv_has ls 2 [(0, .ref o0), (1, .int x1)] := hl
    exact w_X2_lack_e cx hr o0 x1 h _ _ ls wd hl hX)
def f_X2_beside_e (o0 : Nat) (x1 : Int32) (h : mh_H) : Option (Int32 × mh_H) :=
  (mh_gR h o0 2 2).bind fun a1 =>
  mh_b2 (mh_cal h a1 0 (f_X0_weight_e a1 x1 h)) fun v3 h2 =>
  mh_nz ((1000 : Int32) = 0) <|
  some ((mh_irem v3 (1000 : Int32)), h2)
set_option maxRecDepth 100000 in
set_option maxHeartbeats 4000000 in
theorem w_X2_beside_e {p : Program} {l : Launch} {e : Env} {s : State} {m : MethodId} {args : Array Value} {below : List Frame} {meth : Method} {c : Code} {D : va_G} {ks : Nat → ClassId} {L : List Nat} {r : Int32} {h' : mh_H} (cx : mh_C p m c cX2_beside 2 s args RX2 meth D ks (mh_A L s.heap.size)) (hr : meth.sig.returnType = (some .int)) :
    ∀ (o0 : Nat) (x1 : Int32) (h : mh_H) (H : Heap) (locs : List Loc) (ls : Array Slot), mh_W D ks L (mh_A L s.heap.size) s.heap h H locs → lv_has ls 2 [(0, .ref o0), (1, .int x1)] → f_X2_beside_e o0 x1 h = some (r, h') → W p l e (mh_rm 1) s m args below meth c H locs 0 0 (MQ below (mh_Qi D ks L s.heap.size r h') args s 0 0 (mh_A L s.heap.size)) (F0 m 0 ls []) := by
  intro o0 x1 h H locs ls wd hl hX
  have hx := cx.1.1
  have hb := cx.1.2.1
  unfold f_X2_beside_e at hX
  refine lv_aload_n hx hb dX2_beside_0 rfl (lv_at hl 0 rfl) ?_
  refine mh_getR cx wd fl_X2_26 dX2_beside_1 hX (fun a1 hX => ?_)
  refine lv_iload_n hx hb dX2_beside_4 rfl (lv_at hl 1 rfl) ?_
  refine mh_callVI cx wd [.int x1] (rfl : vwCl[0]? = some (RX0, TX0, 2)) yw_X0_weight vw_X2_71 rfl hl.1 rfl (Nat.le_of_ble_eq_true rfl) dX2_beside_5 ⟨Nat.le_of_ble_eq_true rfl, Nat.le_of_ble_eq_true rfl⟩ ⟨Nat.le_refl _, Nat.le_refl _⟩ (fun _ _ q => c_X0_weight q) hX (fun v3 h2 H locs wd hX => ?_)
  refine lv_sipush (v := 1000) hx hb dX2_beside_8 (by decide) ?_
  obtain ⟨hz, hX⟩ := mh_nzk hX
  refine lv_irem hx hb dX2_beside_11 hz ?_
  exact mh_iret cx wd hr hX dX2_beside_12
set_option maxRecDepth 100000 in
theorem c_X2_beside {l : Launch} {L : List Nat} {h h' : mh_H} {r : Int32} {o0 : Nat} {x1 : Int32} (hX : f_X2_beside_e o0 x1 h = some (r, h')) : mh_MI l yX2_beside (Cond.code yX2_beside cX2_beside 2 (some .int) :: mh_TB) (mh_rm 1) [.ref o0, .int x1] L h r h' :=
  mh_of (mc := 0) (ms := 0) (Qc := fun D ks sz => mh_Qi D ks L sz r h') (plainFor_of_name (by decide)) (Nat.le_of_ble_eq_true rfl) (fun p e s m below meth c D ks ls hr cx wd hl => by
    have hl : lv_has ls 2 [(0, .ref o0), (1, .int x1)] := hl
    exact w_X2_beside_e cx hr o0 x1 h _ _ ls wd hl hX)
def f_X2_wheelFrom_e (o0 : Nat) (x1 : Int32) (h : mh_H) : Option (Int32 × mh_H) :=
  (mh_gR h o0 2 2).bind fun a1 =>
  mh_b2 (mh_cal h a1 0 (f_X0_weight_e a1 x1 h)) fun v3 h2 =>
  if v3 = (2147483647 : Int32) then (
  some ((2147483647 : Int32), h2)) else
  mh_b2 (mh_cal h2 o0 2 (f_X2_beside_e o0 x1 h2)) fun v5 h4 =>
  (mh_gR h4 o0 2 2).bind fun a6 =>
  mh_b2 (mh_cal h4 a6 0 (f_X0_modulus_e a6 h4)) fun v8 h7 =>
  mh_b2 (mh_cal h7 o0 2 (f_X2_lack_e o0 x1 h7)) fun v10 h9 =>
  some (((v5 * v8) - v10), h9)
set_option maxRecDepth 100000 in
set_option maxHeartbeats 4000000 in
theorem w_X2_wheelFrom_e {p : Program} {l : Launch} {e : Env} {s : State} {m : MethodId} {args : Array Value} {below : List Frame} {meth : Method} {c : Code} {D : va_G} {ks : Nat → ClassId} {L : List Nat} {r : Int32} {h' : mh_H} (cx : mh_C p m c cX2_wheelFrom 2 s args RX2 meth D ks (mh_A L s.heap.size)) (hr : meth.sig.returnType = (some .int)) :
    ∀ (o0 : Nat) (x1 : Int32) (h : mh_H) (H : Heap) (locs : List Loc) (ls : Array Slot), mh_W D ks L (mh_A L s.heap.size) s.heap h H locs → lv_has ls 2 [(0, .ref o0), (1, .int x1)] → f_X2_wheelFrom_e o0 x1 h = some (r, h') → W p l e (mh_rm 2) s m args below meth c H locs 0 0 (MQ below (mh_Qi D ks L s.heap.size r h') args s 0 0 (mh_A L s.heap.size)) (F0 m 0 ls []) := by
  intro o0 x1 h H locs ls wd hl hX
  have hx := cx.1.1
  have hb := cx.1.2.1
  unfold f_X2_wheelFrom_e at hX
  refine lv_aload_n hx hb dX2_wheelFrom_0 rfl (lv_at hl 0 rfl) ?_
  refine mh_getR cx wd fl_X2_26 dX2_wheelFrom_1 hX (fun a1 hX => ?_)
  refine lv_iload_n hx hb dX2_wheelFrom_4 rfl (lv_at hl 1 rfl) ?_
  refine mh_callVI cx wd [.int x1] (rfl : vwCl[0]? = some (RX0, TX0, 2)) yw_X0_weight vw_X2_71 rfl hl.1 rfl (Nat.le_of_ble_eq_true rfl) dX2_wheelFrom_5 ⟨Nat.le_of_ble_eq_true rfl, Nat.le_of_ble_eq_true rfl⟩ ⟨Nat.le_refl _, Nat.le_refl _⟩ (fun _ _ q => c_X0_weight q) hX (fun v3 h2 H locs wd hX => ?_)
  refine mh_ldc cx kc_X2_74 dX2_wheelFrom_8 ?_
  refine lv_icmp_ne (tgt := 16) hx hb dX2_wheelFrom_10 rfl (fun hc => (fun hX => ?_) ((mh_if hX).2 hc)) (fun hc => (fun hX => ?_) ((mh_if hX).1 hc))
  · refine lv_aload_n hx hb dX2_wheelFrom_16 rfl (lv_at hl 0 rfl) ?_
    refine lv_iload_n hx hb dX2_wheelFrom_17 rfl (lv_at hl 1 rfl) ?_
    refine mh_callVI cx wd [.int x1] (rfl : vwCl[2]? = some (RX2, TX2, 5)) yw_X2_beside vw_X2_75 rfl hl.1 rfl (Nat.le_of_ble_eq_true rfl) dX2_wheelFrom_18 ⟨Nat.le_of_ble_eq_true rfl, Nat.le_of_ble_eq_true rfl⟩ ⟨Nat.le_refl _, Nat.le_refl _⟩ (fun _ _ q => c_X2_beside q) hX (fun v5 h4 H locs wd hX => ?_)
    refine lv_aload_n hx hb dX2_wheelFrom_21 rfl (lv_at hl 0 rfl) ?_
    refine mh_getR cx wd fl_X2_26 dX2_wheelFrom_22 hX (fun a6 hX => ?_)
    refine mh_callVI cx wd [] (rfl : vwCl[0]? = some (RX0, TX0, 2)) yw_X0_modulus vw_X2_78 rfl hl.1 rfl (Nat.le_of_ble_eq_true rfl) dX2_wheelFrom_25 ⟨Nat.le_of_ble_eq_true rfl, Nat.le_of_ble_eq_true rfl⟩ ⟨Nat.le_refl _, Nat.le_refl _⟩ (fun _ _ q => c_X0_modulus q) hX (fun v8 h7 H locs wd hX => ?_)
    refine lv_imul hx hb dX2_wheelFrom_28 ?_
    refine lv_aload_n hx hb dX2_wheelFrom_29 rfl (lv_at hl 0 rfl) ?_
    refine lv_iload_n hx hb dX2_wheelFrom_30 rfl (lv_at hl 1 rfl) ?_
    refine mh_callVI cx wd [.int x1] (rfl : vwCl[2]? = some (RX2, TX2, 5)) yw_X2_lack vw_X2_81 rfl hl.1 rfl (Nat.le_of_ble_eq_true rfl) dX2_wheelFrom_31 ⟨Nat.le_of_ble_eq_true rfl, Nat.le_of_ble_eq_true rfl⟩ ⟨Nat.le_refl _, Nat.le_refl _⟩ (fun _ _ q => c_X2_lack q) hX (fun v10 h9 H locs wd hX => ?_)
    refine lv_isub hx hb dX2_wheelFrom_34 ?_
    exact mh_iret cx wd hr hX dX2_wheelFrom_35
  · refine mh_ldc cx kc_X2_74 dX2_wheelFrom_13 ?_
    exact mh_iret cx wd hr hX dX2_wheelFrom_15
set_option maxRecDepth 100000 in
theorem c_X2_wheelFrom {l : Launch} {L : List Nat} {h h' : mh_H} {r : Int32} {o0 : Nat} {x1 : Int32} (hX : f_X2_wheelFrom_e o0 x1 h = some (r, h')) : mh_MI l yX2_wheelFrom (Cond.code yX2_wheelFrom cX2_wheelFrom 2 (some .int) :: mh_TB) (mh_rm 2) [.ref o0, .int x1] L h r h' :=
  mh_of (mc := 0) (ms := 0) (Qc := fun D ks sz => mh_Qi D ks L sz r h') (plainFor_of_name (by decide)) (Nat.le_of_ble_eq_true rfl) (fun p e s m below meth c D ks ls hr cx wd hl => by
    have hl : lv_has ls 2 [(0, .ref o0), (1, .int x1)] := hl
    exact w_X2_wheelFrom_e cx hr o0 x1 h _ _ ls wd hl hX)
def f_X2_size_b29 (t0 : Int64) (h : mh_H) : Option (Int64 × mh_H) :=
  some (t0, h)
def f_X2_size_b16 (y1 : Int64) (h : mh_H) : Option (Int64 × mh_H) :=
  if (lg_cmp y1 (0 : Int64)) = 0 then (
  f_X2_size_b29 (0 : Int64) h) else
  f_X2_size_b29 (-1 : Int64) h
def f_X2_size_b99 (t0 : Int64) (h : mh_H) : Option (Int64 × mh_H) :=
  some (t0, h)
def f_X2_size_e (o0 : Nat) (y1 : Int64) (h : mh_H) : Option (Int64 × mh_H) :=
  if (lg_cmp y1 (0 : Int64)) ≤ 0 then (
  f_X2_size_b16 y1 h) else
  (mh_gR h o0 2 0).bind fun a1 =>
  mh_b2 (mh_cal h a1 1 (f_X1_count_e a1 h)) fun v3 h2 =>
  if v3 = 0 then (
  f_X2_size_b16 y1 h2) else
  (mh_cal h2 o0 2 (f_X2_turn_e o0 h2)).bind fun h4 =>
  (mh_gR h4 o0 2 2).bind fun a5 =>
  mh_b2 (mh_cal h4 a5 0 (f_X0_modulus_e a5 h4)) fun v7 h6 =>
  mh_nz ((v7).toInt64 = 0) <|
  mh_nm (((mh_lrem y1 ((v7).toInt64))).toInt32) fun v8 =>
  mh_b2 (mh_cal h6 o0 2 (f_X2_wheelFrom_e o0 v8 h6)) fun v10 h9 =>
  if v10 = (2147483647 : Int32) then (
  some ((-1 : Int64), h9)) else
  if 0 ≤ (lg_cmp y1 ((v10).toInt64)) then (
  mh_b2 (mh_cal h9 o0 2 (f_X2_lack_e o0 v8 h9)) fun v12 h11 =>
  (mh_gR h11 o0 2 2).bind fun a13 =>
  mh_b2 (mh_cal h11 a13 0 (f_X0_modulus_e a13 h11)) fun v15 h14 =>
  mh_nz ((v15).toInt64 = 0) <|
  f_X2_size_b99 ((y1 + (v12).toInt64) / (v15).toInt64) h14) else
  mh_b2 (mh_cal h9 o0 2 (f_X2_sizeInTable_e o0 ((y1).toInt32) h9)) fun v17 h16 =>
  f_X2_size_b99 ((v17).toInt64) h16
set_option maxRecDepth 100000 in
set_option maxHeartbeats 4000000 in
theorem w_X2_size_b29 {p : Program} {l : Launch} {e : Env} {s : State} {m : MethodId} {args : Array Value} {below : List Frame} {meth : Method} {c : Code} {D : va_G} {ks : Nat → ClassId} {L : List Nat} {r : Int64} {h' : mh_H} (cx : mh_C p m c cX2_size 5 s args RX2 meth D ks (mh_A L s.heap.size)) (hr : meth.sig.returnType = (some .long)) :
    ∀ (t0 : Int64) (h : mh_H) (H : Heap) (locs : List Loc) (ls : Array Slot), mh_W D ks L (mh_A L s.heap.size) s.heap h H locs → lv_has ls 5 [] → f_X2_size_b29 t0 h = some (r, h') → W p l e (mh_rm 4) s m args below meth c H locs 0 0 (MQ below (mh_Ql D ks L s.heap.size r h') args s 0 0 (mh_A L s.heap.size)) (F0 m 29 ls [.long t0]) := by
  intro t0 h H locs ls wd hl hX
  have hx := cx.1.1
  have hb := cx.1.2.1
  unfold f_X2_size_b29 at hX
  exact mh_lret cx wd hr hX dX2_size_29
set_option maxRecDepth 100000 in
set_option maxHeartbeats 4000000 in
theorem w_X2_size_b16 {p : Program} {l : Launch} {e : Env} {s : State} {m : MethodId} {args : Array Value} {below : List Frame} {meth : Method} {c : Code} {D : va_G} {ks : Nat → ClassId} {L : List Nat} {r : Int64} {h' : mh_H} (cx : mh_C p m c cX2_size 5 s args RX2 meth D ks (mh_A L s.heap.size)) (hr : meth.sig.returnType = (some .long)) :
    ∀ (y1 : Int64) (h : mh_H) (H : Heap) (locs : List Loc) (ls : Array Slot), mh_W D ks L (mh_A L s.heap.size) s.heap h H locs → lv_has ls 5 [(1, .long y1)] → f_X2_size_b16 y1 h = some (r, h') → W p l e (mh_rm 4) s m args below meth c H locs 0 0 (MQ below (mh_Ql D ks L s.heap.size r h') args s 0 0 (mh_A L s.heap.size)) (F0 m 16 ls []) := by
  intro y1 h H locs ls wd hl hX
  have hx := cx.1.1
  have hb := cx.1.2.1
  unfold f_X2_size_b16 at hX
  refine lv_lload_n hx hb dX2_size_16 rfl (lv_at hl 0 rfl) ?_
  refine lv_lconst (v := 0) hx hb dX2_size_17 (by decide) ?_
  refine W.lcmp hx hb dX2_size_18 ?_
  refine lv_if_ne (tgt := 26) hx hb dX2_size_19 rfl (fun hc => (fun hX => ?_) ((mh_if hX).2 hc)) (fun hc => (fun hX => ?_) ((mh_if hX).1 hc))
  · refine mh_ldc2 cx kl_X2_84 dX2_size_26 ?_
    exact w_X2_size_b29 cx hr _ h _ _ ls wd (lv_sub hl [] rfl) hX
  · refine lv_lconst (v := 0) hx hb dX2_size_22 (by decide) ?_
    refine lv_goto (tgt := 29) hx hb dX2_size_23 rfl ?_
    exact w_X2_size_b29 cx hr _ h _ _ ls wd (lv_sub hl [] rfl) hX
set_option maxRecDepth 100000 in
set_option maxHeartbeats 4000000 in
theorem w_X2_size_b99 {p : Program} {l : Launch} {e : Env} {s : State} {m : MethodId} {args : Array Value} {below : List Frame} {meth : Method} {c : Code} {D : va_G} {ks : Nat → ClassId} {L : List Nat} {r : Int64} {h' : mh_H} (cx : mh_C p m c cX2_size 5 s args RX2 meth D ks (mh_A L s.heap.size)) (hr : meth.sig.returnType = (some .long)) :
    ∀ (t0 : Int64) (h : mh_H) (H : Heap) (locs : List Loc) (ls : Array Slot), mh_W D ks L (mh_A L s.heap.size) s.heap h H locs → lv_has ls 5 [] → f_X2_size_b99 t0 h = some (r, h') → W p l e (mh_rm 4) s m args below meth c H locs 0 0 (MQ below (mh_Ql D ks L s.heap.size r h') args s 0 0 (mh_A L s.heap.size)) (F0 m 99 ls [.long t0]) := by
  intro t0 h H locs ls wd hl hX
  have hx := cx.1.1
  have hb := cx.1.2.1
  unfold f_X2_size_b99 at hX
  exact mh_lret cx wd hr hX dX2_size_99
set_option maxRecDepth 100000 in
set_option maxHeartbeats 4000000 in
theorem w_X2_size_e {p : Program} {l : Launch} {e : Env} {s : State} {m : MethodId} {args : Array Value} {below : List Frame} {meth : Method} {c : Code} {D : va_G} {ks : Nat → ClassId} {L : List Nat} {r : Int64} {h' : mh_H} (cx : mh_C p m c cX2_size 5 s args RX2 meth D ks (mh_A L s.heap.size)) (hr : meth.sig.returnType = (some .long)) :
    ∀ (o0 : Nat) (y1 : Int64) (h : mh_H) (H : Heap) (locs : List Loc) (ls : Array Slot), mh_W D ks L (mh_A L s.heap.size) s.heap h H locs → lv_has ls 5 [(0, .ref o0), (1, .long y1)] → f_X2_size_e o0 y1 h = some (r, h') → W p l e (mh_rm 4) s m args below meth c H locs 0 0 (MQ below (mh_Ql D ks L s.heap.size r h') args s 0 0 (mh_A L s.heap.size)) (F0 m 0 ls []) := by
  intro o0 y1 h H locs ls wd hl hX
  have hx := cx.1.1
  have hb := cx.1.2.1
  unfold f_X2_size_e at hX
  refine lv_lload_n hx hb dX2_size_0 rfl (lv_at hl 1 rfl) ?_
  refine lv_lconst (v := 0) hx hb dX2_size_1 (by decide) ?_
  refine W.lcmp hx hb dX2_size_2 ?_
  refine lv_if_le (tgt := 16) hx hb dX2_size_3 rfl (fun hc => (fun hX => ?_) ((mh_if hX).1 hc)) (fun hc => (fun hX => ?_) ((mh_if hX).2 hc))
  · exact w_X2_size_b16 cx hr _ h _ _ ls wd (lv_sub hl [1] rfl) hX
  · refine lv_aload_n hx hb dX2_size_6 rfl (lv_at hl 0 rfl) ?_
    refine mh_getR cx wd fl_X2_12 dX2_size_7 hX (fun a1 hX => ?_)
    refine mh_callVI cx wd [] (rfl : vwCl[1]? = some (RX1, TX1, 2)) yw_X1_count vw_X2_50 rfl hl.1 rfl (Nat.le_of_ble_eq_true rfl) dX2_size_10 ⟨Nat.le_of_ble_eq_true rfl, Nat.le_of_ble_eq_true rfl⟩ ⟨Nat.le_refl _, Nat.le_refl _⟩ (fun _ _ q => c_X1_count q) hX (fun v3 h2 H locs wd hX => ?_)
    refine lv_if_ne (tgt := 30) hx hb dX2_size_13 rfl (fun hc => (fun hX => ?_) ((mh_if hX).2 hc)) (fun hc => (fun hX => ?_) ((mh_if hX).1 hc))
    · refine lv_aload_n hx hb dX2_size_30 rfl (lv_at hl 0 rfl) ?_
      refine mh_callVV cx wd [] (rfl : vwCl[2]? = some (RX2, TX2, 5)) yw_X2_turn vw_X2_86 rfl hl.1 rfl (Nat.le_of_ble_eq_true rfl) dX2_size_31 ⟨Nat.le_of_ble_eq_true rfl, Nat.le_of_ble_eq_true rfl⟩ ⟨Nat.le_refl _, Nat.le_refl _⟩ (fun _ q => c_X2_turn q) hX (fun h4 H locs wd hX => ?_)
      refine lv_lload_n hx hb dX2_size_34 rfl (lv_at hl 1 rfl) ?_
      refine lv_aload_n hx hb dX2_size_35 rfl (lv_at hl 0 rfl) ?_
      refine mh_getR cx wd fl_X2_26 dX2_size_36 hX (fun a5 hX => ?_)
      refine mh_callVI cx wd [] (rfl : vwCl[0]? = some (RX0, TX0, 2)) yw_X0_modulus vw_X2_78 rfl hl.1 rfl (Nat.le_of_ble_eq_true rfl) dX2_size_39 ⟨Nat.le_of_ble_eq_true rfl, Nat.le_of_ble_eq_true rfl⟩ ⟨Nat.le_refl _, Nat.le_refl _⟩ (fun _ _ q => c_X0_modulus q) hX (fun v7 h6 H locs wd hX => ?_)
      refine lv_i2l hx hb dX2_size_42 rfl ?_
      obtain ⟨hz, hX⟩ := mh_nzk hX
      refine lv_lrem hx hb dX2_size_43 hz ?_
      refine lv_l2i hx hb dX2_size_44 rfl ?_
      refine mh_topi hX (fun v8 hX => ?_)
      refine lv_istore_n (lv' := [(3, .int v8), (0, .ref o0), (1, .long y1)]) hx hb dX2_size_45 rfl hl (Nat.le_of_ble_eq_true rfl) rfl (fun ls hl => ?_)
      refine lv_aload_n hx hb dX2_size_46 rfl (lv_at hl 1 rfl) ?_
      refine lv_iload_n hx hb dX2_size_47 rfl (lv_at hl 0 rfl) ?_
      refine mh_callVI cx wd [.int v8] (rfl : vwCl[2]? = some (RX2, TX2, 5)) yw_X2_wheelFrom vw_X2_89 rfl hl.1 rfl (Nat.le_of_ble_eq_true rfl) dX2_size_48 ⟨Nat.le_of_ble_eq_true rfl, Nat.le_of_ble_eq_true rfl⟩ ⟨Nat.le_refl _, Nat.le_refl _⟩ (fun _ _ q => c_X2_wheelFrom q) hX (fun v10 h9 H locs wd hX => ?_)
      refine lv_istore (lv' := [(4, .int v10), (3, .int v8), (0, .ref o0), (1, .long y1)]) hx hb dX2_size_51 hl (Nat.le_of_ble_eq_true rfl) rfl (fun ls hl => ?_)
      refine lv_iload hx hb dX2_size_53 (lv_at hl 0 rfl) ?_
      refine mh_ldc cx kc_X2_74 dX2_size_55 ?_
      refine lv_icmp_ne (tgt := 64) hx hb dX2_size_57 rfl (fun hc => (fun hX => ?_) ((mh_if hX).2 hc)) (fun hc => (fun hX => ?_) ((mh_if hX).1 hc))
      · refine lv_lload_n hx hb dX2_size_64 rfl (lv_at hl 3 rfl) ?_
        refine lv_iload hx hb dX2_size_65 (lv_at hl 0 rfl) ?_
        refine lv_i2l hx hb dX2_size_67 rfl ?_
        refine W.lcmp hx hb dX2_size_68 ?_
        refine lv_if_ge (tgt := 82) hx hb dX2_size_69 rfl (fun hc => (fun hX => ?_) ((mh_if hX).1 hc)) (fun hc => (fun hX => ?_) ((mh_if hX).2 hc))
        · refine lv_lload_n hx hb dX2_size_82 rfl (lv_at hl 3 rfl) ?_
          refine lv_aload_n hx hb dX2_size_83 rfl (lv_at hl 2 rfl) ?_
          refine lv_iload_n hx hb dX2_size_84 rfl (lv_at hl 1 rfl) ?_
          refine mh_callVI cx wd [.int v8] (rfl : vwCl[2]? = some (RX2, TX2, 5)) yw_X2_lack vw_X2_81 rfl hl.1 rfl (Nat.le_of_ble_eq_true rfl) dX2_size_85 ⟨Nat.le_of_ble_eq_true rfl, Nat.le_of_ble_eq_true rfl⟩ ⟨Nat.le_refl _, Nat.le_refl _⟩ (fun _ _ q => c_X2_lack q) hX (fun v12 h11 H locs wd hX => ?_)
          refine lv_i2l hx hb dX2_size_88 rfl ?_
          refine lv_ladd hx hb dX2_size_89 ?_
          refine lv_aload_n hx hb dX2_size_90 rfl (lv_at hl 2 rfl) ?_
          refine mh_getR cx wd fl_X2_26 dX2_size_91 hX (fun a13 hX => ?_)
          refine mh_callVI cx wd [] (rfl : vwCl[0]? = some (RX0, TX0, 2)) yw_X0_modulus vw_X2_78 rfl hl.1 rfl (Nat.le_of_ble_eq_true rfl) dX2_size_94 ⟨Nat.le_of_ble_eq_true rfl, Nat.le_of_ble_eq_true rfl⟩ ⟨Nat.le_refl _, Nat.le_refl _⟩ (fun _ _ q => c_X0_modulus q) hX (fun v15 h14 H locs wd hX => ?_)
          refine lv_i2l hx hb dX2_size_97 rfl ?_
          obtain ⟨hz, hX⟩ := mh_nzk hX
          refine lv_ldiv hx hb dX2_size_98 hz ?_
          exact w_X2_size_b99 cx hr _ h14 _ _ ls wd (lv_sub hl [] rfl) hX
        · refine lv_aload_n hx hb dX2_size_72 rfl (lv_at hl 2 rfl) ?_
          refine lv_lload_n hx hb dX2_size_73 rfl (lv_at hl 3 rfl) ?_
          refine lv_l2i hx hb dX2_size_74 rfl ?_
          refine mh_callVI cx wd [.int ((y1).toInt32)] (rfl : vwCl[2]? = some (RX2, TX2, 5)) yw_X2_sizeInTable vw_X2_92 rfl hl.1 rfl (Nat.le_of_ble_eq_true rfl) dX2_size_75 ⟨Nat.le_of_ble_eq_true rfl, Nat.le_of_ble_eq_true rfl⟩ ⟨Nat.le_refl _, Nat.le_refl _⟩ (fun _ _ q => c_X2_sizeInTable q) hX (fun v17 h16 H locs wd hX => ?_)
          refine lv_i2l hx hb dX2_size_78 rfl ?_
          refine lv_goto (tgt := 99) hx hb dX2_size_79 rfl ?_
          exact w_X2_size_b99 cx hr _ h16 _ _ ls wd (lv_sub hl [] rfl) hX
      · refine mh_ldc2 cx kl_X2_84 dX2_size_60 ?_
        exact mh_lret cx wd hr hX dX2_size_63
    · exact w_X2_size_b16 cx hr _ h2 _ _ ls wd (lv_sub hl [1] rfl) hX
set_option maxRecDepth 100000 in
theorem c_X2_size {l : Launch} {L : List Nat} {h h' : mh_H} {r : Int64} {o0 : Nat} {y1 : Int64} (hX : f_X2_size_e o0 y1 h = some (r, h')) : mh_MJ l yX2_size (Cond.code yX2_size cX2_size 5 (some .long) :: mh_TB) (mh_rm 4) [.ref o0, .long y1] L h r h' :=
  mh_of (mc := 0) (ms := 0) (Qc := fun D ks sz => mh_Ql D ks L sz r h') (plainFor_of_name (by decide)) (Nat.le_of_ble_eq_true rfl) (fun p e s m below meth c D ks ls hr cx wd hl => by
    have hl : lv_has ls 5 [(0, .ref o0), (1, .long y1)] := hl
    exact w_X2_size_e cx hr o0 y1 h _ _ ls wd hl hX)
def f_X2_oftenByTable_b92 (k16 : Nat → Int32 → Int32 → Int32 → Int32 → mh_H → Option (Int32 × mh_H)) (o0 : Nat) (x2 : Int32) (x3 : Int32) (x4 : Int32) (x5 : Int32) (h : mh_H) : Option (Int32 × mh_H) :=
  mh_nm (x5 + Int32.ofInt (-1)) fun v1 =>
  k16 o0 x2 x3 x4 v1 h
def f_X2_oftenByTable_b56 (k16 : Nat → Int32 → Int32 → Int32 → Int32 → mh_H → Option (Int32 × mh_H)) : Nat → Nat → Int32 → Int32 → Int32 → Int32 → Int32 → Int32 → mh_H → Option (Int32 × mh_H)
  | 0, _, _, _, _, _, _, _, _ => none
  | n + 1, o0, x2, x3, x4, x5, x6, x7, h =>
    if x7 ≤ x4 then (
    f_X2_oftenByTable_b92 k16 o0 x2 x3 x4 x5 h) else
    mh_b2 (mh_cal h o0 2 (f_X2_sizeInTable_e o0 (x3 - x6) h)) fun v3 h2 =>
    mh_b2 (mh_cal h2 o0 2 (f_X2_sizeInTable_e o0 x3 h2)) fun v5 h4 =>
    if (v3 + (1 : Int32)) = v5 then (
    mh_nm (x3 - x6) fun v6 =>
    mh_nm (x4 + Int32.ofInt (1)) fun v7 =>
    f_X2_oftenByTable_b56 k16 n o0 x2 v6 v7 x5 x6 x7 h4) else
    f_X2_oftenByTable_b92 k16 o0 x2 x3 x4 x5 h4
def f_X2_oftenByTable_b54 (k16 : Nat → Int32 → Int32 → Int32 → Int32 → mh_H → Option (Int32 × mh_H)) (o0 : Nat) (x2 : Int32) (x3 : Int32) (x4 : Int32) (x5 : Int32) (x6 : Int32) (t0 : Int32) (h : mh_H) : Option (Int32 × mh_H) :=
  f_X2_oftenByTable_b56 k16 mh_fu o0 x2 x3 x4 x5 x6 t0 h
def f_X2_oftenByTable_b98 (x4 : Int32) (h : mh_H) : Option (Int32 × mh_H) :=
  some (x4, h)
def f_X2_oftenByTable_b16 : Nat → Nat → Int32 → Int32 → Int32 → Int32 → mh_H → Option (Int32 × mh_H)
  | 0, _, _, _, _, _, _ => none
  | n + 1, o0, x2, x3, x4, x5, h =>
    if x5 < x2 then (
    f_X2_oftenByTable_b98 x4 h) else
    if x5 < 0 then (
    f_X2_oftenByTable_b98 x4 h) else
    mh_nm (0 : Int32) fun v8 =>
    (mh_gR h o0 2 0).bind fun a9 =>
    mh_b2 (mh_cal h a9 1 (f_X1_value_e a9 x5 h)) fun v11 h10 =>
    if v11 ≤ 0 then (
    f_X2_oftenByTable_b54 (f_X2_oftenByTable_b16 n) o0 x2 x3 v8 x5 v11 (0 : Int32) h10) else
    mh_nz (v11 = 0) <|
    f_X2_oftenByTable_b54 (f_X2_oftenByTable_b16 n) o0 x2 x3 v8 x5 v11 (x3 / v11) h10
def f_X2_oftenByTable_e (o0 : Nat) (x1 : Int32) (x2 : Int32) (h : mh_H) : Option (Int32 × mh_H) :=
  mh_nm (0 : Int32) fun v12 =>
  (mh_gR h o0 2 0).bind fun a13 =>
  mh_b2 (mh_cal h a13 1 (f_X1_count_e a13 h)) fun v15 h14 =>
  mh_nm (v15 - (1 : Int32)) fun v16 =>
  f_X2_oftenByTable_b16 mh_fu o0 x2 x1 v12 v16 h14
set_option maxRecDepth 100000 in
set_option maxHeartbeats 4000000 in
theorem w_X2_oftenByTable_b92 {p : Program} {l : Launch} {e : Env} {s : State} {m : MethodId} {args : Array Value} {below : List Frame} {meth : Method} {c : Code} {D : va_G} {ks : Nat → ClassId} {L : List Nat} {r : Int32} {h' : mh_H} (k16 : Nat → Int32 → Int32 → Int32 → Int32 → mh_H → Option (Int32 × mh_H)) (cx : mh_C p m c cX2_oftenByTable 8 s args RX2 meth D ks (mh_A L s.heap.size)) (hr : meth.sig.returnType = (some .int))
    (hk16 : ∀ (o0 : Nat) (x2 : Int32) (x3 : Int32) (x4 : Int32) (x5 : Int32) (h : mh_H) (H : Heap) (locs : List Loc) (ls : Array Slot), mh_W D ks L (mh_A L s.heap.size) s.heap h H locs → lv_has ls 8 [(0, .ref o0), (2, .int x2), (3, .int x3), (4, .int x4), (5, .int x5)] → k16 o0 x2 x3 x4 x5 h = some (r, h') → W p l e (mh_rm 3) s m args below meth c H locs 0 0 (MQ below (mh_Qi D ks L s.heap.size r h') args s 0 0 (mh_A L s.heap.size)) (F0 m 16 ls [])) :
    ∀ (o0 : Nat) (x2 : Int32) (x3 : Int32) (x4 : Int32) (x5 : Int32) (h : mh_H) (H : Heap) (locs : List Loc) (ls : Array Slot), mh_W D ks L (mh_A L s.heap.size) s.heap h H locs → lv_has ls 8 [(0, .ref o0), (2, .int x2), (3, .int x3), (4, .int x4), (5, .int x5)] → f_X2_oftenByTable_b92 k16 o0 x2 x3 x4 x5 h = some (r, h') → W p l e (mh_rm 3) s m args below meth c H locs 0 0 (MQ below (mh_Qi D ks L s.heap.size r h') args s 0 0 (mh_A L s.heap.size)) (F0 m 92 ls []) := by
  intro o0 x2 x3 x4 x5 h H locs ls wd hl hX
  have hx := cx.1.1
  have hb := cx.1.2.1
  unfold f_X2_oftenByTable_b92 at hX
  obtain ⟨v1, ev1, hX⟩ := mh_nmx hX
  refine lv_iinc (k := 4) (v := v1) (lv' := [(5, .int v1), (0, .ref o0), (2, .int x2), (3, .int x3), (4, .int x4)]) hx hb dX2_oftenByTable_92 hl rfl ev1 (Nat.le_of_ble_eq_true rfl) rfl (fun ls hl => ?_)
  refine lv_goto (tgt := 16) hx hb dX2_oftenByTable_95 rfl ?_
  exact hk16 _ _ _ _ _ h _ _ ls wd (lv_sub hl [1, 2, 3, 4, 0] rfl) hX
set_option maxRecDepth 100000 in
set_option maxHeartbeats 4000000 in
theorem w_X2_oftenByTable_b56 {p : Program} {l : Launch} {e : Env} {s : State} {m : MethodId} {args : Array Value} {below : List Frame} {meth : Method} {c : Code} {D : va_G} {ks : Nat → ClassId} {L : List Nat} {r : Int32} {h' : mh_H} (k16 : Nat → Int32 → Int32 → Int32 → Int32 → mh_H → Option (Int32 × mh_H)) (cx : mh_C p m c cX2_oftenByTable 8 s args RX2 meth D ks (mh_A L s.heap.size)) (hr : meth.sig.returnType = (some .int))
    (hk16 : ∀ (o0 : Nat) (x2 : Int32) (x3 : Int32) (x4 : Int32) (x5 : Int32) (h : mh_H) (H : Heap) (locs : List Loc) (ls : Array Slot), mh_W D ks L (mh_A L s.heap.size) s.heap h H locs → lv_has ls 8 [(0, .ref o0), (2, .int x2), (3, .int x3), (4, .int x4), (5, .int x5)] → k16 o0 x2 x3 x4 x5 h = some (r, h') → W p l e (mh_rm 3) s m args below meth c H locs 0 0 (MQ below (mh_Qi D ks L s.heap.size r h') args s 0 0 (mh_A L s.heap.size)) (F0 m 16 ls [])) :
    ∀ n : Nat, ∀ (o0 : Nat) (x2 : Int32) (x3 : Int32) (x4 : Int32) (x5 : Int32) (x6 : Int32) (x7 : Int32) (h : mh_H) (H : Heap) (locs : List Loc) (ls : Array Slot), mh_W D ks L (mh_A L s.heap.size) s.heap h H locs → lv_has ls 8 [(0, .ref o0), (2, .int x2), (3, .int x3), (4, .int x4), (5, .int x5), (6, .int x6), (7, .int x7)] → f_X2_oftenByTable_b56 k16 n o0 x2 x3 x4 x5 x6 x7 h = some (r, h') → W p l e (mh_rm 3) s m args below meth c H locs 0 0 (MQ below (mh_Qi D ks L s.heap.size r h') args s 0 0 (mh_A L s.heap.size)) (F0 m 56 ls []) := by
  intro n
  induction n with
  | zero =>
    intro o0 x2 x3 x4 x5 x6 x7 h H locs ls wd hl hX
    cases hX
  | succ n ih =>
    intro o0 x2 x3 x4 x5 x6 x7 h H locs ls wd hl hX
    have hx := cx.1.1
    have hb := cx.1.2.1
    rw [f_X2_oftenByTable_b56] at hX
    refine lv_iload hx hb dX2_oftenByTable_56 (lv_at hl 3 rfl) ?_
    refine lv_iload hx hb dX2_oftenByTable_58 (lv_at hl 6 rfl) ?_
    refine lv_icmp_ge (tgt := 92) hx hb dX2_oftenByTable_60 rfl (fun hc => (fun hX => ?_) ((mh_if hX).1 hc)) (fun hc => (fun hX => ?_) ((mh_if hX).2 hc))
    · exact w_X2_oftenByTable_b92 k16 cx hr hk16 _ _ _ _ _ h _ _ ls wd (lv_sub hl [0, 1, 2, 3, 4] rfl) hX
    · refine lv_aload_n hx hb dX2_oftenByTable_63 rfl (lv_at hl 0 rfl) ?_
      refine lv_iload_n hx hb dX2_oftenByTable_64 rfl (lv_at hl 2 rfl) ?_
      refine lv_iload hx hb dX2_oftenByTable_65 (lv_at hl 5 rfl) ?_
      refine lv_isub hx hb dX2_oftenByTable_67 ?_
      refine mh_callVI cx wd [.int (x3 - x6)] (rfl : vwCl[2]? = some (RX2, TX2, 5)) yw_X2_sizeInTable vw_X2_92 rfl hl.1 rfl (Nat.le_of_ble_eq_true rfl) dX2_oftenByTable_68 ⟨Nat.le_of_ble_eq_true rfl, Nat.le_of_ble_eq_true rfl⟩ ⟨Nat.le_refl _, Nat.le_refl _⟩ (fun _ _ q => c_X2_sizeInTable q) hX (fun v3 h2 H locs wd hX => ?_)
      refine lv_iconst (v := 1) hx hb dX2_oftenByTable_71 (by decide) ?_
      refine lv_iadd hx hb dX2_oftenByTable_72 ?_
      refine lv_aload_n hx hb dX2_oftenByTable_73 rfl (lv_at hl 0 rfl) ?_
      refine lv_iload_n hx hb dX2_oftenByTable_74 rfl (lv_at hl 2 rfl) ?_
      refine mh_callVI cx wd [.int x3] (rfl : vwCl[2]? = some (RX2, TX2, 5)) yw_X2_sizeInTable vw_X2_92 rfl hl.1 rfl (Nat.le_of_ble_eq_true rfl) dX2_oftenByTable_75 ⟨Nat.le_of_ble_eq_true rfl, Nat.le_of_ble_eq_true rfl⟩ ⟨Nat.le_refl _, Nat.le_refl _⟩ (fun _ _ q => c_X2_sizeInTable q) hX (fun v5 h4 H locs wd hX => ?_)
      refine lv_icmp_ne (tgt := 92) hx hb dX2_oftenByTable_78 rfl (fun hc => (fun hX => ?_) ((mh_if hX).2 hc)) (fun hc => (fun hX => ?_) ((mh_if hX).1 hc))
      · exact w_X2_oftenByTable_b92 k16 cx hr hk16 _ _ _ _ _ h4 _ _ ls wd (lv_sub hl [0, 1, 2, 3, 4] rfl) hX
      · refine lv_iload_n hx hb dX2_oftenByTable_81 rfl (lv_at hl 2 rfl) ?_
        refine lv_iload hx hb dX2_oftenByTable_82 (lv_at hl 5 rfl) ?_
        refine lv_isub hx hb dX2_oftenByTable_84 ?_
        refine mh_topi hX (fun v6 hX => ?_)
        refine lv_istore_n (lv' := [(3, .int v6), (0, .ref o0), (2, .int x2), (4, .int x4), (5, .int x5), (6, .int x6), (7, .int x7)]) hx hb dX2_oftenByTable_85 rfl hl (Nat.le_of_ble_eq_true rfl) rfl (fun ls hl => ?_)
        obtain ⟨v7, ev7, hX⟩ := mh_nmx hX
        refine lv_iinc (k := 3) (v := v7) (lv' := [(4, .int v7), (3, .int v6), (0, .ref o0), (2, .int x2), (5, .int x5), (6, .int x6), (7, .int x7)]) hx hb dX2_oftenByTable_86 hl rfl ev7 (Nat.le_of_ble_eq_true rfl) rfl (fun ls hl => ?_)
        refine lv_goto (tgt := 56) hx hb dX2_oftenByTable_89 rfl ?_
        exact ih _ _ _ _ _ _ _ h4 _ _ ls wd (lv_sub hl [2, 3, 1, 0, 4, 5, 6] rfl) hX
set_option maxRecDepth 100000 in
set_option maxHeartbeats 4000000 in
theorem w_X2_oftenByTable_b54 {p : Program} {l : Launch} {e : Env} {s : State} {m : MethodId} {args : Array Value} {below : List Frame} {meth : Method} {c : Code} {D : va_G} {ks : Nat → ClassId} {L : List Nat} {r : Int32} {h' : mh_H} (k16 : Nat → Int32 → Int32 → Int32 → Int32 → mh_H → Option (Int32 × mh_H)) (cx : mh_C p m c cX2_oftenByTable 8 s args RX2 meth D ks (mh_A L s.heap.size)) (hr : meth.sig.returnType = (some .int))
    (hk16 : ∀ (o0 : Nat) (x2 : Int32) (x3 : Int32) (x4 : Int32) (x5 : Int32) (h : mh_H) (H : Heap) (locs : List Loc) (ls : Array Slot), mh_W D ks L (mh_A L s.heap.size) s.heap h H locs → lv_has ls 8 [(0, .ref o0), (2, .int x2), (3, .int x3), (4, .int x4), (5, .int x5)] → k16 o0 x2 x3 x4 x5 h = some (r, h') → W p l e (mh_rm 3) s m args below meth c H locs 0 0 (MQ below (mh_Qi D ks L s.heap.size r h') args s 0 0 (mh_A L s.heap.size)) (F0 m 16 ls [])) :
    ∀ (o0 : Nat) (x2 : Int32) (x3 : Int32) (x4 : Int32) (x5 : Int32) (x6 : Int32) (t0 : Int32) (h : mh_H) (H : Heap) (locs : List Loc) (ls : Array Slot), mh_W D ks L (mh_A L s.heap.size) s.heap h H locs → lv_has ls 8 [(0, .ref o0), (2, .int x2), (3, .int x3), (4, .int x4), (5, .int x5), (6, .int x6)] → f_X2_oftenByTable_b54 k16 o0 x2 x3 x4 x5 x6 t0 h = some (r, h') → W p l e (mh_rm 3) s m args below meth c H locs 0 0 (MQ below (mh_Qi D ks L s.heap.size r h') args s 0 0 (mh_A L s.heap.size)) (F0 m 54 ls [.int t0]) := by
  intro o0 x2 x3 x4 x5 x6 t0 h H locs ls wd hl hX
  have hx := cx.1.1
  have hb := cx.1.2.1
  unfold f_X2_oftenByTable_b54 at hX
  refine lv_istore (lv' := [(7, .int t0), (0, .ref o0), (2, .int x2), (3, .int x3), (4, .int x4), (5, .int x5), (6, .int x6)]) hx hb dX2_oftenByTable_54 hl (Nat.le_of_ble_eq_true rfl) rfl (fun ls hl => ?_)
  exact w_X2_oftenByTable_b56 k16 cx hr hk16 mh_fu _ _ _ _ _ _ _ h _ _ ls wd (lv_sub hl [1, 2, 3, 4, 5, 6, 0] rfl) hX
set_option maxRecDepth 100000 in
set_option maxHeartbeats 4000000 in
theorem w_X2_oftenByTable_b98 {p : Program} {l : Launch} {e : Env} {s : State} {m : MethodId} {args : Array Value} {below : List Frame} {meth : Method} {c : Code} {D : va_G} {ks : Nat → ClassId} {L : List Nat} {r : Int32} {h' : mh_H} (cx : mh_C p m c cX2_oftenByTable 8 s args RX2 meth D ks (mh_A L s.heap.size)) (hr : meth.sig.returnType = (some .int)) :
    ∀ (x4 : Int32) (h : mh_H) (H : Heap) (locs : List Loc) (ls : Array Slot), mh_W D ks L (mh_A L s.heap.size) s.heap h H locs → lv_has ls 8 [(4, .int x4)] → f_X2_oftenByTable_b98 x4 h = some (r, h') → W p l e (mh_rm 3) s m args below meth c H locs 0 0 (MQ below (mh_Qi D ks L s.heap.size r h') args s 0 0 (mh_A L s.heap.size)) (F0 m 98 ls []) := by
  intro x4 h H locs ls wd hl hX
  have hx := cx.1.1
  have hb := cx.1.2.1
  unfold f_X2_oftenByTable_b98 at hX
  refine lv_iload hx hb dX2_oftenByTable_98 (lv_at hl 0 rfl) ?_
  exact mh_iret cx wd hr hX dX2_oftenByTable_100
set_option maxRecDepth 100000 in
set_option maxHeartbeats 4000000 in
theorem w_X2_oftenByTable_b16 {p : Program} {l : Launch} {e : Env} {s : State} {m : MethodId} {args : Array Value} {below : List Frame} {meth : Method} {c : Code} {D : va_G} {ks : Nat → ClassId} {L : List Nat} {r : Int32} {h' : mh_H} (cx : mh_C p m c cX2_oftenByTable 8 s args RX2 meth D ks (mh_A L s.heap.size)) (hr : meth.sig.returnType = (some .int)) :
    ∀ n : Nat, ∀ (o0 : Nat) (x2 : Int32) (x3 : Int32) (x4 : Int32) (x5 : Int32) (h : mh_H) (H : Heap) (locs : List Loc) (ls : Array Slot), mh_W D ks L (mh_A L s.heap.size) s.heap h H locs → lv_has ls 8 [(0, .ref o0), (2, .int x2), (3, .int x3), (4, .int x4), (5, .int x5)] → f_X2_oftenByTable_b16 n o0 x2 x3 x4 x5 h = some (r, h') → W p l e (mh_rm 3) s m args below meth c H locs 0 0 (MQ below (mh_Qi D ks L s.heap.size r h') args s 0 0 (mh_A L s.heap.size)) (F0 m 16 ls []) := by
  intro n
  induction n with
  | zero =>
    intro o0 x2 x3 x4 x5 h H locs ls wd hl hX
    cases hX
  | succ n ih =>
    intro o0 x2 x3 x4 x5 h H locs ls wd hl hX
    have hx := cx.1.1
    have hb := cx.1.2.1
    rw [f_X2_oftenByTable_b16] at hX
    refine lv_iload hx hb dX2_oftenByTable_16 (lv_at hl 4 rfl) ?_
    refine lv_iload_n hx hb dX2_oftenByTable_18 rfl (lv_at hl 1 rfl) ?_
    refine lv_icmp_lt (tgt := 98) hx hb dX2_oftenByTable_19 rfl (fun hc => (fun hX => ?_) ((mh_if hX).1 hc)) (fun hc => (fun hX => ?_) ((mh_if hX).2 hc))
    · exact w_X2_oftenByTable_b98 cx hr _ h _ _ ls wd (lv_sub hl [3] rfl) hX
    · refine lv_iload hx hb dX2_oftenByTable_22 (lv_at hl 4 rfl) ?_
      refine lv_if_lt (tgt := 98) hx hb dX2_oftenByTable_24 rfl (fun hc => (fun hX => ?_) ((mh_if hX).1 hc)) (fun hc => (fun hX => ?_) ((mh_if hX).2 hc))
      · exact w_X2_oftenByTable_b98 cx hr _ h _ _ ls wd (lv_sub hl [3] rfl) hX
      · refine lv_iconst (v := 0) hx hb dX2_oftenByTable_27 (by decide) ?_
        refine mh_topi hX (fun v8 hX => ?_)
        refine lv_istore (lv' := [(4, .int v8), (0, .ref o0), (2, .int x2), (3, .int x3), (5, .int x5)]) hx hb dX2_oftenByTable_28 hl (Nat.le_of_ble_eq_true rfl) rfl (fun ls hl => ?_)
        refine lv_aload_n hx hb dX2_oftenByTable_30 rfl (lv_at hl 1 rfl) ?_
        refine mh_getR cx wd fl_X2_12 dX2_oftenByTable_31 hX (fun a9 hX => ?_)
        refine lv_iload hx hb dX2_oftenByTable_34 (lv_at hl 4 rfl) ?_
        refine mh_callVI cx wd [.int x5] (rfl : vwCl[1]? = some (RX1, TX1, 2)) yw_X1_value vw_X2_54 rfl hl.1 rfl (Nat.le_of_ble_eq_true rfl) dX2_oftenByTable_36 ⟨Nat.le_of_ble_eq_true rfl, Nat.le_of_ble_eq_true rfl⟩ ⟨Nat.le_refl _, Nat.le_refl _⟩ (fun _ _ q => c_X1_value q) hX (fun v11 h10 H locs wd hX => ?_)
        refine lv_istore (lv' := [(6, .int v11), (4, .int v8), (0, .ref o0), (2, .int x2), (3, .int x3), (5, .int x5)]) hx hb dX2_oftenByTable_39 hl (Nat.le_of_ble_eq_true rfl) rfl (fun ls hl => ?_)
        refine lv_iload hx hb dX2_oftenByTable_41 (lv_at hl 0 rfl) ?_
        refine lv_if_le (tgt := 53) hx hb dX2_oftenByTable_43 rfl (fun hc => (fun hX => ?_) ((mh_if hX).1 hc)) (fun hc => (fun hX => ?_) ((mh_if hX).2 hc))
        · refine lv_iconst (v := 0) hx hb dX2_oftenByTable_53 (by decide) ?_
          exact w_X2_oftenByTable_b54 (f_X2_oftenByTable_b16 n) cx hr ih _ _ _ _ _ _ _ h10 _ _ ls wd (lv_sub hl [2, 3, 4, 1, 5, 0] rfl) hX
        · refine lv_iload_n hx hb dX2_oftenByTable_46 rfl (lv_at hl 4 rfl) ?_
          refine lv_iload hx hb dX2_oftenByTable_47 (lv_at hl 0 rfl) ?_
          obtain ⟨hz, hX⟩ := mh_nzk hX
          refine lv_idiv hx hb dX2_oftenByTable_49 hz ?_
          refine lv_goto (tgt := 54) hx hb dX2_oftenByTable_50 rfl ?_
          exact w_X2_oftenByTable_b54 (f_X2_oftenByTable_b16 n) cx hr ih _ _ _ _ _ _ _ h10 _ _ ls wd (lv_sub hl [2, 3, 4, 1, 5, 0] rfl) hX
set_option maxRecDepth 100000 in
set_option maxHeartbeats 4000000 in
theorem w_X2_oftenByTable_e {p : Program} {l : Launch} {e : Env} {s : State} {m : MethodId} {args : Array Value} {below : List Frame} {meth : Method} {c : Code} {D : va_G} {ks : Nat → ClassId} {L : List Nat} {r : Int32} {h' : mh_H} (cx : mh_C p m c cX2_oftenByTable 8 s args RX2 meth D ks (mh_A L s.heap.size)) (hr : meth.sig.returnType = (some .int)) :
    ∀ (o0 : Nat) (x1 : Int32) (x2 : Int32) (h : mh_H) (H : Heap) (locs : List Loc) (ls : Array Slot), mh_W D ks L (mh_A L s.heap.size) s.heap h H locs → lv_has ls 8 [(0, .ref o0), (1, .int x1), (2, .int x2)] → f_X2_oftenByTable_e o0 x1 x2 h = some (r, h') → W p l e (mh_rm 3) s m args below meth c H locs 0 0 (MQ below (mh_Qi D ks L s.heap.size r h') args s 0 0 (mh_A L s.heap.size)) (F0 m 0 ls []) := by
  intro o0 x1 x2 h H locs ls wd hl hX
  have hx := cx.1.1
  have hb := cx.1.2.1
  unfold f_X2_oftenByTable_e at hX
  refine lv_iload_n hx hb dX2_oftenByTable_0 rfl (lv_at hl 1 rfl) ?_
  refine lv_istore_n (lv' := [(3, .int x1), (0, .ref o0), (1, .int x1), (2, .int x2)]) hx hb dX2_oftenByTable_1 rfl hl (Nat.le_of_ble_eq_true rfl) rfl (fun ls hl => ?_)
  refine lv_iconst (v := 0) hx hb dX2_oftenByTable_2 (by decide) ?_
  refine mh_topi hX (fun v12 hX => ?_)
  refine lv_istore (lv' := [(4, .int v12), (3, .int x1), (0, .ref o0), (1, .int x1), (2, .int x2)]) hx hb dX2_oftenByTable_3 hl (Nat.le_of_ble_eq_true rfl) rfl (fun ls hl => ?_)
  refine lv_aload_n hx hb dX2_oftenByTable_5 rfl (lv_at hl 2 rfl) ?_
  refine mh_getR cx wd fl_X2_12 dX2_oftenByTable_6 hX (fun a13 hX => ?_)
  refine mh_callVI cx wd [] (rfl : vwCl[1]? = some (RX1, TX1, 2)) yw_X1_count vw_X2_50 rfl hl.1 rfl (Nat.le_of_ble_eq_true rfl) dX2_oftenByTable_9 ⟨Nat.le_of_ble_eq_true rfl, Nat.le_of_ble_eq_true rfl⟩ ⟨Nat.le_refl _, Nat.le_refl _⟩ (fun _ _ q => c_X1_count q) hX (fun v15 h14 H locs wd hX => ?_)
  refine lv_iconst (v := 1) hx hb dX2_oftenByTable_12 (by decide) ?_
  refine lv_isub hx hb dX2_oftenByTable_13 ?_
  refine mh_topi hX (fun v16 hX => ?_)
  refine lv_istore (lv' := [(5, .int v16), (4, .int v12), (3, .int x1), (0, .ref o0), (1, .int x1), (2, .int x2)]) hx hb dX2_oftenByTable_14 hl (Nat.le_of_ble_eq_true rfl) rfl (fun ls hl => ?_)
  exact w_X2_oftenByTable_b16 cx hr mh_fu _ _ _ _ _ h14 _ _ ls wd (lv_sub hl [3, 5, 2, 1, 0] rfl) hX
set_option maxRecDepth 100000 in
theorem c_X2_oftenByTable {l : Launch} {L : List Nat} {h h' : mh_H} {r : Int32} {o0 : Nat} {x1 : Int32} {x2 : Int32} (hX : f_X2_oftenByTable_e o0 x1 x2 h = some (r, h')) : mh_MI l yX2_oftenByTable (Cond.code yX2_oftenByTable cX2_oftenByTable 8 (some .int) :: mh_TB) (mh_rm 3) [.ref o0, .int x1, .int x2] L h r h' :=
  mh_of (mc := 0) (ms := 0) (Qc := fun D ks sz => mh_Qi D ks L sz r h') (plainFor_of_name (by decide)) (Nat.le_of_ble_eq_true rfl) (fun p e s m below meth c D ks ls hr cx wd hl => by
    have hl : lv_has ls 8 [(0, .ref o0), (1, .int x1), (2, .int x2)] := hl
    exact w_X2_oftenByTable_e cx hr o0 x1 x2 h _ _ ls wd hl hX)
def f_J9_floorMod_7cf53_b18 (x2 : Int32) (h : mh_H) : Option (Int32 × mh_H) :=
  some (x2, h)
def f_J9_floorMod_7cf53_e (x0 : Int32) (x1 : Int32) (h : mh_H) : Option (Int32 × mh_H) :=
  mh_nz (x1 = 0) <|
  mh_nm (mh_irem x0 x1) fun v1 =>
  if 0 ≤ (x0 ^^^ x1) then (
  f_J9_floorMod_7cf53_b18 v1 h) else
  if v1 = 0 then (
  f_J9_floorMod_7cf53_b18 v1 h) else
  some ((v1 + x1), h)
set_option maxRecDepth 100000 in
set_option maxHeartbeats 4000000 in
theorem w_J9_floorMod_7cf53_b18 {p : Program} {l : Launch} {e : Env} {s : State} {m : MethodId} {args : Array Value} {below : List Frame} {meth : Method} {c : Code} {D : va_G} {ks : Nat → ClassId} {L : List Nat} {r : Int32} {h' : mh_H} (cx : mh_C p m c cJ9_floorMod_7cf53 3 s args RJ9 meth D ks (mh_A L s.heap.size)) (hr : meth.sig.returnType = (some .int)) :
    ∀ (x2 : Int32) (h : mh_H) (H : Heap) (locs : List Loc) (ls : Array Slot), mh_W D ks L (mh_A L s.heap.size) s.heap h H locs → lv_has ls 3 [(2, .int x2)] → f_J9_floorMod_7cf53_b18 x2 h = some (r, h') → W p l e (mh_rm 0) s m args below meth c H locs 0 0 (MQ below (mh_Qi D ks L s.heap.size r h') args s 0 0 (mh_A L s.heap.size)) (F0 m 18 ls []) := by
  intro x2 h H locs ls wd hl hX
  have hx := cx.1.1
  have hb := cx.1.2.1
  unfold f_J9_floorMod_7cf53_b18 at hX
  refine lv_iload_n hx hb dJ9_floorMod_7cf53_18 rfl (lv_at hl 0 rfl) ?_
  exact mh_iret cx wd hr hX dJ9_floorMod_7cf53_19
set_option maxRecDepth 100000 in
set_option maxHeartbeats 4000000 in
theorem w_J9_floorMod_7cf53_e {p : Program} {l : Launch} {e : Env} {s : State} {m : MethodId} {args : Array Value} {below : List Frame} {meth : Method} {c : Code} {D : va_G} {ks : Nat → ClassId} {L : List Nat} {r : Int32} {h' : mh_H} (cx : mh_C p m c cJ9_floorMod_7cf53 3 s args RJ9 meth D ks (mh_A L s.heap.size)) (hr : meth.sig.returnType = (some .int)) :
    ∀ (x0 : Int32) (x1 : Int32) (h : mh_H) (H : Heap) (locs : List Loc) (ls : Array Slot), mh_W D ks L (mh_A L s.heap.size) s.heap h H locs → lv_has ls 3 [(0, .int x0), (1, .int x1)] → f_J9_floorMod_7cf53_e x0 x1 h = some (r, h') → W p l e (mh_rm 0) s m args below meth c H locs 0 0 (MQ below (mh_Qi D ks L s.heap.size r h') args s 0 0 (mh_A L s.heap.size)) (F0 m 0 ls []) := by
  intro x0 x1 h H locs ls wd hl hX
  have hx := cx.1.1
  have hb := cx.1.2.1
  unfold f_J9_floorMod_7cf53_e at hX
  refine lv_iload_n hx hb dJ9_floorMod_7cf53_0 rfl (lv_at hl 0 rfl) ?_
  refine lv_iload_n hx hb dJ9_floorMod_7cf53_1 rfl (lv_at hl 1 rfl) ?_
  obtain ⟨hz, hX⟩ := mh_nzk hX
  refine lv_irem hx hb dJ9_floorMod_7cf53_2 hz ?_
  refine mh_topi hX (fun v1 hX => ?_)
  refine lv_istore_n (lv' := [(2, .int v1), (0, .int x0), (1, .int x1)]) hx hb dJ9_floorMod_7cf53_3 rfl hl (Nat.le_of_ble_eq_true rfl) rfl (fun ls hl => ?_)
  refine lv_iload_n hx hb dJ9_floorMod_7cf53_4 rfl (lv_at hl 1 rfl) ?_
  refine lv_iload_n hx hb dJ9_floorMod_7cf53_5 rfl (lv_at hl 2 rfl) ?_
  refine lv_ixor hx hb dJ9_floorMod_7cf53_6 ?_
  refine lv_if_ge (tgt := 18) hx hb dJ9_floorMod_7cf53_7 rfl (fun hc => (fun hX => ?_) ((mh_if hX).1 hc)) (fun hc => (fun hX => ?_) ((mh_if hX).2 hc))
  · exact w_J9_floorMod_7cf53_b18 cx hr _ h _ _ ls wd (lv_sub hl [0] rfl) hX
  · refine lv_iload_n hx hb dJ9_floorMod_7cf53_10 rfl (lv_at hl 0 rfl) ?_
    refine lv_if_eq (tgt := 18) hx hb dJ9_floorMod_7cf53_11 rfl (fun hc => (fun hX => ?_) ((mh_if hX).1 hc)) (fun hc => (fun hX => ?_) ((mh_if hX).2 hc))
    · exact w_J9_floorMod_7cf53_b18 cx hr _ h _ _ ls wd (lv_sub hl [0] rfl) hX
    · refine lv_iload_n hx hb dJ9_floorMod_7cf53_14 rfl (lv_at hl 0 rfl) ?_
      refine lv_iload_n hx hb dJ9_floorMod_7cf53_15 rfl (lv_at hl 2 rfl) ?_
      refine lv_iadd hx hb dJ9_floorMod_7cf53_16 ?_
      exact mh_iret cx wd hr hX dJ9_floorMod_7cf53_17
set_option maxRecDepth 100000 in
theorem c_J9_floorMod_7cf53 {l : Launch} {L : List Nat} {h h' : mh_H} {r : Int32} {x0 : Int32} {x1 : Int32} (hX : f_J9_floorMod_7cf53_e x0 x1 h = some (r, h')) : mh_MI l yJ9_floorMod_7cf53 (Cond.code yJ9_floorMod_7cf53 cJ9_floorMod_7cf53 3 (some .int) :: mh_TB) (mh_rm 0) [.int x0, .int x1] L h r h' :=
  mh_of (mc := 0) (ms := 0) (Qc := fun D ks sz => mh_Qi D ks L sz r h') (by decide +kernel) (Nat.le_of_ble_eq_true rfl) (fun p e s m below meth c D ks ls hr cx wd hl => by
    have hl : lv_has ls 3 [(0, .int x0), (1, .int x1)] := hl
    exact w_J9_floorMod_7cf53_e cx hr x0 x1 h _ _ ls wd hl hX)
def f_X2_leadsBest_b39 (t0 : Int32) (h : mh_H) : Option (Int32 × mh_H) :=
  mh_rz t0 h
def f_X2_leadsBest_b38 (k39 : Int32 → mh_H → Option (Int32 × mh_H)) (h : mh_H) : Option (Int32 × mh_H) :=
  k39 (0 : Int32) h
def f_X2_leadsBest_e (o0 : Nat) (x1 : Int32) (x2 : Int32) (x3 : Int32) (h : mh_H) : Option (Int32 × mh_H) :=
  (mh_gR h o0 2 2).bind fun a1 =>
  mh_b2 (mh_cal h a1 0 (f_X0_weight_e a1 x1 h)) fun v3 h2 =>
  if v3 = (2147483647 : Int32) then (
  f_X2_leadsBest_b38 (f_X2_leadsBest_b39) h2) else
  (mh_gR h2 o0 2 2).bind fun a4 =>
  mh_b2 (mh_cal h2 a4 0 (f_X0_weight_e a4 x1 h2)) fun v6 h5 =>
  (mh_gR h5 o0 2 2).bind fun a7 =>
  mh_b2 (mh_cal h5 a7 0 (f_X0_weight_e a7 x2 h5)) fun v9 h8 =>
  if (v6 + x3) = v9 then (
  f_X2_leadsBest_b39 (1 : Int32) h8) else
  f_X2_leadsBest_b38 (f_X2_leadsBest_b39) h8
set_option maxRecDepth 100000 in
set_option maxHeartbeats 4000000 in
theorem w_X2_leadsBest_b39 {p : Program} {l : Launch} {e : Env} {s : State} {m : MethodId} {args : Array Value} {below : List Frame} {meth : Method} {c : Code} {D : va_G} {ks : Nat → ClassId} {L : List Nat} {r : Int32} {h' : mh_H} (cx : mh_C p m c cX2_leadsBest 4 s args RX2 meth D ks (mh_A L s.heap.size)) (hr : meth.sig.returnType = (some .boolean)) :
    ∀ (t0 : Int32) (h : mh_H) (H : Heap) (locs : List Loc) (ls : Array Slot), mh_W D ks L (mh_A L s.heap.size) s.heap h H locs → lv_has ls 4 [] → f_X2_leadsBest_b39 t0 h = some (r, h') → W p l e (mh_rm 1) s m args below meth c H locs 0 0 (MQ below (mh_Qi D ks L s.heap.size r h') args s 0 0 (mh_A L s.heap.size)) (F0 m 39 ls [.int t0]) := by
  intro t0 h H locs ls wd hl hX
  have hx := cx.1.1
  have hb := cx.1.2.1
  unfold f_X2_leadsBest_b39 at hX
  exact mh_zret cx wd hr hX dX2_leadsBest_39
set_option maxRecDepth 100000 in
set_option maxHeartbeats 4000000 in
theorem w_X2_leadsBest_b38 {p : Program} {l : Launch} {e : Env} {s : State} {m : MethodId} {args : Array Value} {below : List Frame} {meth : Method} {c : Code} {D : va_G} {ks : Nat → ClassId} {L : List Nat} {r : Int32} {h' : mh_H} (k39 : Int32 → mh_H → Option (Int32 × mh_H)) (cx : mh_C p m c cX2_leadsBest 4 s args RX2 meth D ks (mh_A L s.heap.size)) (hr : meth.sig.returnType = (some .boolean))
    (hk39 : ∀ (t0 : Int32) (h : mh_H) (H : Heap) (locs : List Loc) (ls : Array Slot), mh_W D ks L (mh_A L s.heap.size) s.heap h H locs → lv_has ls 4 [] → k39 t0 h = some (r, h') → W p l e (mh_rm 1) s m args below meth c H locs 0 0 (MQ below (mh_Qi D ks L s.heap.size r h') args s 0 0 (mh_A L s.heap.size)) (F0 m 39 ls [.int t0])) :
    ∀ (h : mh_H) (H : Heap) (locs : List Loc) (ls : Array Slot), mh_W D ks L (mh_A L s.heap.size) s.heap h H locs → lv_has ls 4 [] → f_X2_leadsBest_b38 k39  h = some (r, h') → W p l e (mh_rm 1) s m args below meth c H locs 0 0 (MQ below (mh_Qi D ks L s.heap.size r h') args s 0 0 (mh_A L s.heap.size)) (F0 m 38 ls []) := by
  intro  h H locs ls wd hl hX
  have hx := cx.1.1
  have hb := cx.1.2.1
  unfold f_X2_leadsBest_b38 at hX
  refine lv_iconst (v := 0) hx hb dX2_leadsBest_38 (by decide) ?_
  exact hk39 _ h _ _ ls wd (lv_sub hl [] rfl) hX
set_option maxRecDepth 100000 in
set_option maxHeartbeats 4000000 in
theorem w_X2_leadsBest_e {p : Program} {l : Launch} {e : Env} {s : State} {m : MethodId} {args : Array Value} {below : List Frame} {meth : Method} {c : Code} {D : va_G} {ks : Nat → ClassId} {L : List Nat} {r : Int32} {h' : mh_H} (cx : mh_C p m c cX2_leadsBest 4 s args RX2 meth D ks (mh_A L s.heap.size)) (hr : meth.sig.returnType = (some .boolean)) :
    ∀ (o0 : Nat) (x1 : Int32) (x2 : Int32) (x3 : Int32) (h : mh_H) (H : Heap) (locs : List Loc) (ls : Array Slot), mh_W D ks L (mh_A L s.heap.size) s.heap h H locs → lv_has ls 4 [(0, .ref o0), (1, .int x1), (2, .int x2), (3, .int x3)] → f_X2_leadsBest_e o0 x1 x2 x3 h = some (r, h') → W p l e (mh_rm 1) s m args below meth c H locs 0 0 (MQ below (mh_Qi D ks L s.heap.size r h') args s 0 0 (mh_A L s.heap.size)) (F0 m 0 ls []) := by
  intro o0 x1 x2 x3 h H locs ls wd hl hX
  have hx := cx.1.1
  have hb := cx.1.2.1
  unfold f_X2_leadsBest_e at hX
  refine lv_aload_n hx hb dX2_leadsBest_0 rfl (lv_at hl 0 rfl) ?_
  refine mh_getR cx wd fl_X2_26 dX2_leadsBest_1 hX (fun a1 hX => ?_)
  refine lv_iload_n hx hb dX2_leadsBest_4 rfl (lv_at hl 1 rfl) ?_
  refine mh_callVI cx wd [.int x1] (rfl : vwCl[0]? = some (RX0, TX0, 2)) yw_X0_weight vw_X2_71 rfl hl.1 rfl (Nat.le_of_ble_eq_true rfl) dX2_leadsBest_5 ⟨Nat.le_of_ble_eq_true rfl, Nat.le_of_ble_eq_true rfl⟩ ⟨Nat.le_refl _, Nat.le_refl _⟩ (fun _ _ q => c_X0_weight q) hX (fun v3 h2 H locs wd hX => ?_)
  refine mh_ldc cx kc_X2_74 dX2_leadsBest_8 ?_
  refine lv_icmp_eq (tgt := 38) hx hb dX2_leadsBest_10 rfl (fun hc => (fun hX => ?_) ((mh_if hX).1 hc)) (fun hc => (fun hX => ?_) ((mh_if hX).2 hc))
  · exact w_X2_leadsBest_b38 (f_X2_leadsBest_b39) cx hr (w_X2_leadsBest_b39 cx hr)  h2 _ _ ls wd (lv_sub hl [] rfl) hX
  · refine lv_aload_n hx hb dX2_leadsBest_13 rfl (lv_at hl 0 rfl) ?_
    refine mh_getR cx wd fl_X2_26 dX2_leadsBest_14 hX (fun a4 hX => ?_)
    refine lv_iload_n hx hb dX2_leadsBest_17 rfl (lv_at hl 1 rfl) ?_
    refine mh_callVI cx wd [.int x1] (rfl : vwCl[0]? = some (RX0, TX0, 2)) yw_X0_weight vw_X2_71 rfl hl.1 rfl (Nat.le_of_ble_eq_true rfl) dX2_leadsBest_18 ⟨Nat.le_of_ble_eq_true rfl, Nat.le_of_ble_eq_true rfl⟩ ⟨Nat.le_refl _, Nat.le_refl _⟩ (fun _ _ q => c_X0_weight q) hX (fun v6 h5 H locs wd hX => ?_)
    refine lv_iload_n hx hb dX2_leadsBest_21 rfl (lv_at hl 3 rfl) ?_
    refine lv_iadd hx hb dX2_leadsBest_22 ?_
    refine lv_aload_n hx hb dX2_leadsBest_23 rfl (lv_at hl 0 rfl) ?_
    refine mh_getR cx wd fl_X2_26 dX2_leadsBest_24 hX (fun a7 hX => ?_)
    refine lv_iload_n hx hb dX2_leadsBest_27 rfl (lv_at hl 2 rfl) ?_
    refine mh_callVI cx wd [.int x2] (rfl : vwCl[0]? = some (RX0, TX0, 2)) yw_X0_weight vw_X2_71 rfl hl.1 rfl (Nat.le_of_ble_eq_true rfl) dX2_leadsBest_28 ⟨Nat.le_of_ble_eq_true rfl, Nat.le_of_ble_eq_true rfl⟩ ⟨Nat.le_refl _, Nat.le_refl _⟩ (fun _ _ q => c_X0_weight q) hX (fun v9 h8 H locs wd hX => ?_)
    refine lv_icmp_ne (tgt := 38) hx hb dX2_leadsBest_31 rfl (fun hc => (fun hX => ?_) ((mh_if hX).2 hc)) (fun hc => (fun hX => ?_) ((mh_if hX).1 hc))
    · exact w_X2_leadsBest_b38 (f_X2_leadsBest_b39) cx hr (w_X2_leadsBest_b39 cx hr)  h8 _ _ ls wd (lv_sub hl [] rfl) hX
    · refine lv_iconst (v := 1) hx hb dX2_leadsBest_34 (by decide) ?_
      refine lv_goto (tgt := 39) hx hb dX2_leadsBest_35 rfl ?_
      exact w_X2_leadsBest_b39 cx hr _ h8 _ _ ls wd (lv_sub hl [] rfl) hX
set_option maxRecDepth 100000 in
theorem c_X2_leadsBest {l : Launch} {L : List Nat} {h h' : mh_H} {r : Int32} {o0 : Nat} {x1 : Int32} {x2 : Int32} {x3 : Int32} (hX : f_X2_leadsBest_e o0 x1 x2 x3 h = some (r, h')) : mh_MI l yX2_leadsBest (Cond.code yX2_leadsBest cX2_leadsBest 4 (some .boolean) :: mh_TB) (mh_rm 1) [.ref o0, .int x1, .int x2, .int x3] L h r h' :=
  mh_of (mc := 0) (ms := 0) (Qc := fun D ks sz => mh_Qi D ks L sz r h') (plainFor_of_name (by decide)) (Nat.le_of_ble_eq_true rfl) (fun p e s m below meth c D ks ls hr cx wd hl => by
    have hl : lv_has ls 4 [(0, .ref o0), (1, .int x1), (2, .int x2), (3, .int x3)] := hl
    exact w_X2_leadsBest_e cx hr o0 x1 x2 x3 h _ _ ls wd hl hX)
def f_X2_oftenByWheel_b109 (k16 : Nat → Int32 → Int32 → Int32 → Int32 → mh_H → Option (Int32 × mh_H)) (o0 : Nat) (x2 : Int32) (x3 : Int32) (x4 : Int32) (x5 : Int32) (h : mh_H) : Option (Int32 × mh_H) :=
  mh_nm (x5 + Int32.ofInt (-1)) fun v1 =>
  k16 o0 x2 x3 x4 v1 h
def f_X2_oftenByWheel_b53 (k16 : Nat → Int32 → Int32 → Int32 → Int32 → mh_H → Option (Int32 × mh_H)) : Nat → Nat → Int32 → Int32 → Int32 → Int32 → Int32 → mh_H → Option (Int32 × mh_H)
  | 0, _, _, _, _, _, _, _ => none
  | n + 1, o0, x2, x3, x4, x5, x6, h =>
    if (300 : Int32) ≤ x4 then (
    f_X2_oftenByWheel_b109 k16 o0 x2 x3 x4 x5 h) else
    mh_b2 (mh_cal h o0 2 (f_X2_weightOf_e o0 x5 h)) fun v3 h2 =>
    mh_b2 (mh_cal h2 o0 2 (f_X2_leadsBest_e o0 x6 x3 v3 h2)) fun v5 h4 =>
    if v5 = 0 then (
    f_X2_oftenByWheel_b109 k16 o0 x2 x3 x4 x5 h4) else
    (mh_gR h4 o0 2 0).bind fun a6 =>
    mh_b2 (mh_cal h4 a6 1 (f_X1_value_e a6 x5 h4)) fun v8 h7 =>
    (mh_gR h7 o0 2 2).bind fun a9 =>
    mh_b2 (mh_cal h7 a9 0 (f_X0_modulus_e a9 h7)) fun v11 h10 =>
    mh_b2 (f_J9_floorMod_7cf53_e (x6 - v8) v11 h10) fun v13 h12 =>
    mh_nm (x4 + Int32.ofInt (1)) fun v14 =>
    f_X2_oftenByWheel_b53 k16 n o0 x2 x6 v14 x5 v13 h12
def f_X2_oftenByWheel_b115 (x4 : Int32) (h : mh_H) : Option (Int32 × mh_H) :=
  some (x4, h)
def f_X2_oftenByWheel_b16 : Nat → Nat → Int32 → Int32 → Int32 → Int32 → mh_H → Option (Int32 × mh_H)
  | 0, _, _, _, _, _, _ => none
  | n + 1, o0, x2, x3, x4, x5, h =>
    if x5 < x2 then (
    f_X2_oftenByWheel_b115 x4 h) else
    if x5 < 0 then (
    f_X2_oftenByWheel_b115 x4 h) else
    mh_nm (0 : Int32) fun v15 =>
    (mh_gR h o0 2 0).bind fun a16 =>
    mh_b2 (mh_cal h a16 1 (f_X1_value_e a16 x5 h)) fun v18 h17 =>
    (mh_gR h17 o0 2 2).bind fun a19 =>
    mh_b2 (mh_cal h17 a19 0 (f_X0_modulus_e a19 h17)) fun v21 h20 =>
    mh_b2 (f_J9_floorMod_7cf53_e (x3 - v18) v21 h20) fun v23 h22 =>
    f_X2_oftenByWheel_b53 (f_X2_oftenByWheel_b16 n) mh_fu o0 x2 x3 v15 x5 v23 h22
def f_X2_oftenByWheel_e (o0 : Nat) (x1 : Int32) (x2 : Int32) (h : mh_H) : Option (Int32 × mh_H) :=
  mh_nm (0 : Int32) fun v24 =>
  (mh_gR h o0 2 0).bind fun a25 =>
  mh_b2 (mh_cal h a25 1 (f_X1_count_e a25 h)) fun v27 h26 =>
  mh_nm (v27 - (2 : Int32)) fun v28 =>
  f_X2_oftenByWheel_b16 mh_fu o0 x2 x1 v24 v28 h26
set_option maxRecDepth 100000 in
set_option maxHeartbeats 4000000 in
theorem w_X2_oftenByWheel_b109 {p : Program} {l : Launch} {e : Env} {s : State} {m : MethodId} {args : Array Value} {below : List Frame} {meth : Method} {c : Code} {D : va_G} {ks : Nat → ClassId} {L : List Nat} {r : Int32} {h' : mh_H} (k16 : Nat → Int32 → Int32 → Int32 → Int32 → mh_H → Option (Int32 × mh_H)) (cx : mh_C p m c cX2_oftenByWheel 7 s args RX2 meth D ks (mh_A L s.heap.size)) (hr : meth.sig.returnType = (some .int))
    (hk16 : ∀ (o0 : Nat) (x2 : Int32) (x3 : Int32) (x4 : Int32) (x5 : Int32) (h : mh_H) (H : Heap) (locs : List Loc) (ls : Array Slot), mh_W D ks L (mh_A L s.heap.size) s.heap h H locs → lv_has ls 7 [(0, .ref o0), (2, .int x2), (3, .int x3), (4, .int x4), (5, .int x5)] → k16 o0 x2 x3 x4 x5 h = some (r, h') → W p l e (mh_rm 3) s m args below meth c H locs 0 0 (MQ below (mh_Qi D ks L s.heap.size r h') args s 0 0 (mh_A L s.heap.size)) (F0 m 16 ls [])) :
    ∀ (o0 : Nat) (x2 : Int32) (x3 : Int32) (x4 : Int32) (x5 : Int32) (h : mh_H) (H : Heap) (locs : List Loc) (ls : Array Slot), mh_W D ks L (mh_A L s.heap.size) s.heap h H locs → lv_has ls 7 [(0, .ref o0), (2, .int x2), (3, .int x3), (4, .int x4), (5, .int x5)] → f_X2_oftenByWheel_b109 k16 o0 x2 x3 x4 x5 h = some (r, h') → W p l e (mh_rm 3) s m args below meth c H locs 0 0 (MQ below (mh_Qi D ks L s.heap.size r h') args s 0 0 (mh_A L s.heap.size)) (F0 m 109 ls []) := by
  intro o0 x2 x3 x4 x5 h H locs ls wd hl hX
  have hx := cx.1.1
  have hb := cx.1.2.1
  unfold f_X2_oftenByWheel_b109 at hX
  obtain ⟨v1, ev1, hX⟩ := mh_nmx hX
  refine lv_iinc (k := 4) (v := v1) (lv' := [(5, .int v1), (0, .ref o0), (2, .int x2), (3, .int x3), (4, .int x4)]) hx hb dX2_oftenByWheel_109 hl rfl ev1 (Nat.le_of_ble_eq_true rfl) rfl (fun ls hl => ?_)
  refine lv_goto (tgt := 16) hx hb dX2_oftenByWheel_112 rfl ?_
  exact hk16 _ _ _ _ _ h _ _ ls wd (lv_sub hl [1, 2, 3, 4, 0] rfl) hX
set_option maxRecDepth 100000 in
set_option maxHeartbeats 4000000 in
theorem w_X2_oftenByWheel_b53 {p : Program} {l : Launch} {e : Env} {s : State} {m : MethodId} {args : Array Value} {below : List Frame} {meth : Method} {c : Code} {D : va_G} {ks : Nat → ClassId} {L : List Nat} {r : Int32} {h' : mh_H} (k16 : Nat → Int32 → Int32 → Int32 → Int32 → mh_H → Option (Int32 × mh_H)) (cx : mh_C p m c cX2_oftenByWheel 7 s args RX2 meth D ks (mh_A L s.heap.size)) (hr : meth.sig.returnType = (some .int))
    (hk16 : ∀ (o0 : Nat) (x2 : Int32) (x3 : Int32) (x4 : Int32) (x5 : Int32) (h : mh_H) (H : Heap) (locs : List Loc) (ls : Array Slot), mh_W D ks L (mh_A L s.heap.size) s.heap h H locs → lv_has ls 7 [(0, .ref o0), (2, .int x2), (3, .int x3), (4, .int x4), (5, .int x5)] → k16 o0 x2 x3 x4 x5 h = some (r, h') → W p l e (mh_rm 3) s m args below meth c H locs 0 0 (MQ below (mh_Qi D ks L s.heap.size r h') args s 0 0 (mh_A L s.heap.size)) (F0 m 16 ls [])) :
    ∀ n : Nat, ∀ (o0 : Nat) (x2 : Int32) (x3 : Int32) (x4 : Int32) (x5 : Int32) (x6 : Int32) (h : mh_H) (H : Heap) (locs : List Loc) (ls : Array Slot), mh_W D ks L (mh_A L s.heap.size) s.heap h H locs → lv_has ls 7 [(0, .ref o0), (2, .int x2), (3, .int x3), (4, .int x4), (5, .int x5), (6, .int x6)] → f_X2_oftenByWheel_b53 k16 n o0 x2 x3 x4 x5 x6 h = some (r, h') → W p l e (mh_rm 3) s m args below meth c H locs 0 0 (MQ below (mh_Qi D ks L s.heap.size r h') args s 0 0 (mh_A L s.heap.size)) (F0 m 53 ls []) := by
  intro n
  induction n with
  | zero =>
    intro o0 x2 x3 x4 x5 x6 h H locs ls wd hl hX
    cases hX
  | succ n ih =>
    intro o0 x2 x3 x4 x5 x6 h H locs ls wd hl hX
    have hx := cx.1.1
    have hb := cx.1.2.1
    rw [f_X2_oftenByWheel_b53] at hX
    refine lv_iload hx hb dX2_oftenByWheel_53 (lv_at hl 3 rfl) ?_
    refine lv_sipush (v := 300) hx hb dX2_oftenByWheel_55 (by decide) ?_
    refine lv_icmp_ge (tgt := 109) hx hb dX2_oftenByWheel_58 rfl (fun hc => (fun hX => ?_) ((mh_if hX).1 hc)) (fun hc => (fun hX => ?_) ((mh_if hX).2 hc))
    · exact w_X2_oftenByWheel_b109 k16 cx hr hk16 _ _ _ _ _ h _ _ ls wd (lv_sub hl [0, 1, 2, 3, 4] rfl) hX
    · refine lv_aload_n hx hb dX2_oftenByWheel_61 rfl (lv_at hl 0 rfl) ?_
      refine lv_iload hx hb dX2_oftenByWheel_62 (lv_at hl 5 rfl) ?_
      refine lv_iload_n hx hb dX2_oftenByWheel_64 rfl (lv_at hl 2 rfl) ?_
      refine lv_aload_n hx hb dX2_oftenByWheel_65 rfl (lv_at hl 0 rfl) ?_
      refine lv_iload hx hb dX2_oftenByWheel_66 (lv_at hl 4 rfl) ?_
      refine mh_callVI cx wd [.int x5] (rfl : vwCl[2]? = some (RX2, TX2, 5)) yw_X2_weightOf vw_X2_64 rfl hl.1 rfl (Nat.le_of_ble_eq_true rfl) dX2_oftenByWheel_68 ⟨Nat.le_of_ble_eq_true rfl, Nat.le_of_ble_eq_true rfl⟩ ⟨Nat.le_refl _, Nat.le_refl _⟩ (fun _ _ q => c_X2_weightOf q) hX (fun v3 h2 H locs wd hX => ?_)
      refine mh_callVI cx wd [.int x6, .int x3, .int v3] (rfl : vwCl[2]? = some (RX2, TX2, 5)) yw_X2_leadsBest vw_X2_111 rfl hl.1 rfl (Nat.le_of_ble_eq_true rfl) dX2_oftenByWheel_71 ⟨Nat.le_of_ble_eq_true rfl, Nat.le_of_ble_eq_true rfl⟩ ⟨Nat.le_refl _, Nat.le_refl _⟩ (fun _ _ q => c_X2_leadsBest q) hX (fun v5 h4 H locs wd hX => ?_)
      refine lv_if_eq (tgt := 109) hx hb dX2_oftenByWheel_74 rfl (fun hc => (fun hX => ?_) ((mh_if hX).1 hc)) (fun hc => (fun hX => ?_) ((mh_if hX).2 hc))
      · exact w_X2_oftenByWheel_b109 k16 cx hr hk16 _ _ _ _ _ h4 _ _ ls wd (lv_sub hl [0, 1, 2, 3, 4] rfl) hX
      · refine lv_iload hx hb dX2_oftenByWheel_77 (lv_at hl 5 rfl) ?_
        refine lv_istore_n (lv' := [(3, .int x6), (0, .ref o0), (2, .int x2), (4, .int x4), (5, .int x5), (6, .int x6)]) hx hb dX2_oftenByWheel_79 rfl hl (Nat.le_of_ble_eq_true rfl) rfl (fun ls hl => ?_)
        refine lv_iload_n hx hb dX2_oftenByWheel_80 rfl (lv_at hl 0 rfl) ?_
        refine lv_aload_n hx hb dX2_oftenByWheel_81 rfl (lv_at hl 1 rfl) ?_
        refine mh_getR cx wd fl_X2_12 dX2_oftenByWheel_82 hX (fun a6 hX => ?_)
        refine lv_iload hx hb dX2_oftenByWheel_85 (lv_at hl 4 rfl) ?_
        refine mh_callVI cx wd [.int x5] (rfl : vwCl[1]? = some (RX1, TX1, 2)) yw_X1_value vw_X2_54 rfl hl.1 rfl (Nat.le_of_ble_eq_true rfl) dX2_oftenByWheel_87 ⟨Nat.le_of_ble_eq_true rfl, Nat.le_of_ble_eq_true rfl⟩ ⟨Nat.le_refl _, Nat.le_refl _⟩ (fun _ _ q => c_X1_value q) hX (fun v8 h7 H locs wd hX => ?_)
        refine lv_isub hx hb dX2_oftenByWheel_90 ?_
        refine lv_aload_n hx hb dX2_oftenByWheel_91 rfl (lv_at hl 1 rfl) ?_
        refine mh_getR cx wd fl_X2_26 dX2_oftenByWheel_92 hX (fun a9 hX => ?_)
        refine mh_callVI cx wd [] (rfl : vwCl[0]? = some (RX0, TX0, 2)) yw_X0_modulus vw_X2_78 rfl hl.1 rfl (Nat.le_of_ble_eq_true rfl) dX2_oftenByWheel_95 ⟨Nat.le_of_ble_eq_true rfl, Nat.le_of_ble_eq_true rfl⟩ ⟨Nat.le_refl _, Nat.le_refl _⟩ (fun _ _ q => c_X0_modulus q) hX (fun v11 h10 H locs wd hX => ?_)
        refine mh_callSI cx wd [.int (x6 - v8), .int v11] yw_J9_floorMod_7cf53 sw_X2_106 rfl hl.1 rfl (Nat.le_of_ble_eq_true rfl) dX2_oftenByWheel_98 ⟨Nat.le_of_ble_eq_true rfl, Nat.le_of_ble_eq_true rfl⟩ ⟨Nat.le_refl _, Nat.le_refl _⟩ (fun _ _ q => c_J9_floorMod_7cf53 q) hX (fun v13 h12 H locs wd hX => ?_)
        refine lv_istore (lv' := [(6, .int v13), (3, .int x6), (0, .ref o0), (2, .int x2), (4, .int x4), (5, .int x5)]) hx hb dX2_oftenByWheel_101 hl (Nat.le_of_ble_eq_true rfl) rfl (fun ls hl => ?_)
        obtain ⟨v14, ev14, hX⟩ := mh_nmx hX
        refine lv_iinc (k := 4) (v := v14) (lv' := [(4, .int v14), (6, .int v13), (3, .int x6), (0, .ref o0), (2, .int x2), (5, .int x5)]) hx hb dX2_oftenByWheel_103 hl rfl ev14 (Nat.le_of_ble_eq_true rfl) rfl (fun ls hl => ?_)
        refine lv_goto (tgt := 53) hx hb dX2_oftenByWheel_106 rfl ?_
        exact ih _ _ _ _ _ _ h12 _ _ ls wd (lv_sub hl [3, 4, 2, 0, 5, 1] rfl) hX
set_option maxRecDepth 100000 in
set_option maxHeartbeats 4000000 in
theorem w_X2_oftenByWheel_b115 {p : Program} {l : Launch} {e : Env} {s : State} {m : MethodId} {args : Array Value} {below : List Frame} {meth : Method} {c : Code} {D : va_G} {ks : Nat → ClassId} {L : List Nat} {r : Int32} {h' : mh_H} (cx : mh_C p m c cX2_oftenByWheel 7 s args RX2 meth D ks (mh_A L s.heap.size)) (hr : meth.sig.returnType = (some .int)) :
    ∀ (x4 : Int32) (h : mh_H) (H : Heap) (locs : List Loc) (ls : Array Slot), mh_W D ks L (mh_A L s.heap.size) s.heap h H locs → lv_has ls 7 [(4, .int x4)] → f_X2_oftenByWheel_b115 x4 h = some (r, h') → W p l e (mh_rm 3) s m args below meth c H locs 0 0 (MQ below (mh_Qi D ks L s.heap.size r h') args s 0 0 (mh_A L s.heap.size)) (F0 m 115 ls []) := by
  intro x4 h H locs ls wd hl hX
  have hx := cx.1.1
  have hb := cx.1.2.1
  unfold f_X2_oftenByWheel_b115 at hX
  refine lv_iload hx hb dX2_oftenByWheel_115 (lv_at hl 0 rfl) ?_
  exact mh_iret cx wd hr hX dX2_oftenByWheel_117
set_option maxRecDepth 100000 in
set_option maxHeartbeats 4000000 in
theorem w_X2_oftenByWheel_b16 {p : Program} {l : Launch} {e : Env} {s : State} {m : MethodId} {args : Array Value} {below : List Frame} {meth : Method} {c : Code} {D : va_G} {ks : Nat → ClassId} {L : List Nat} {r : Int32} {h' : mh_H} (cx : mh_C p m c cX2_oftenByWheel 7 s args RX2 meth D ks (mh_A L s.heap.size)) (hr : meth.sig.returnType = (some .int)) :
    ∀ n : Nat, ∀ (o0 : Nat) (x2 : Int32) (x3 : Int32) (x4 : Int32) (x5 : Int32) (h : mh_H) (H : Heap) (locs : List Loc) (ls : Array Slot), mh_W D ks L (mh_A L s.heap.size) s.heap h H locs → lv_has ls 7 [(0, .ref o0), (2, .int x2), (3, .int x3), (4, .int x4), (5, .int x5)] → f_X2_oftenByWheel_b16 n o0 x2 x3 x4 x5 h = some (r, h') → W p l e (mh_rm 3) s m args below meth c H locs 0 0 (MQ below (mh_Qi D ks L s.heap.size r h') args s 0 0 (mh_A L s.heap.size)) (F0 m 16 ls []) := by
  intro n
  induction n with
  | zero =>
    intro o0 x2 x3 x4 x5 h H locs ls wd hl hX
    cases hX
  | succ n ih =>
    intro o0 x2 x3 x4 x5 h H locs ls wd hl hX
    have hx := cx.1.1
    have hb := cx.1.2.1
    rw [f_X2_oftenByWheel_b16] at hX
    refine lv_iload hx hb dX2_oftenByWheel_16 (lv_at hl 4 rfl) ?_
    refine lv_iload_n hx hb dX2_oftenByWheel_18 rfl (lv_at hl 1 rfl) ?_
    refine lv_icmp_lt (tgt := 115) hx hb dX2_oftenByWheel_19 rfl (fun hc => (fun hX => ?_) ((mh_if hX).1 hc)) (fun hc => (fun hX => ?_) ((mh_if hX).2 hc))
    · exact w_X2_oftenByWheel_b115 cx hr _ h _ _ ls wd (lv_sub hl [3] rfl) hX
    · refine lv_iload hx hb dX2_oftenByWheel_22 (lv_at hl 4 rfl) ?_
      refine lv_if_lt (tgt := 115) hx hb dX2_oftenByWheel_24 rfl (fun hc => (fun hX => ?_) ((mh_if hX).1 hc)) (fun hc => (fun hX => ?_) ((mh_if hX).2 hc))
      · exact w_X2_oftenByWheel_b115 cx hr _ h _ _ ls wd (lv_sub hl [3] rfl) hX
      · refine lv_iconst (v := 0) hx hb dX2_oftenByWheel_27 (by decide) ?_
        refine mh_topi hX (fun v15 hX => ?_)
        refine lv_istore (lv' := [(4, .int v15), (0, .ref o0), (2, .int x2), (3, .int x3), (5, .int x5)]) hx hb dX2_oftenByWheel_28 hl (Nat.le_of_ble_eq_true rfl) rfl (fun ls hl => ?_)
        refine lv_iload_n hx hb dX2_oftenByWheel_30 rfl (lv_at hl 3 rfl) ?_
        refine lv_aload_n hx hb dX2_oftenByWheel_31 rfl (lv_at hl 1 rfl) ?_
        refine mh_getR cx wd fl_X2_12 dX2_oftenByWheel_32 hX (fun a16 hX => ?_)
        refine lv_iload hx hb dX2_oftenByWheel_35 (lv_at hl 4 rfl) ?_
        refine mh_callVI cx wd [.int x5] (rfl : vwCl[1]? = some (RX1, TX1, 2)) yw_X1_value vw_X2_54 rfl hl.1 rfl (Nat.le_of_ble_eq_true rfl) dX2_oftenByWheel_37 ⟨Nat.le_of_ble_eq_true rfl, Nat.le_of_ble_eq_true rfl⟩ ⟨Nat.le_refl _, Nat.le_refl _⟩ (fun _ _ q => c_X1_value q) hX (fun v18 h17 H locs wd hX => ?_)
        refine lv_isub hx hb dX2_oftenByWheel_40 ?_
        refine lv_aload_n hx hb dX2_oftenByWheel_41 rfl (lv_at hl 1 rfl) ?_
        refine mh_getR cx wd fl_X2_26 dX2_oftenByWheel_42 hX (fun a19 hX => ?_)
        refine mh_callVI cx wd [] (rfl : vwCl[0]? = some (RX0, TX0, 2)) yw_X0_modulus vw_X2_78 rfl hl.1 rfl (Nat.le_of_ble_eq_true rfl) dX2_oftenByWheel_45 ⟨Nat.le_of_ble_eq_true rfl, Nat.le_of_ble_eq_true rfl⟩ ⟨Nat.le_refl _, Nat.le_refl _⟩ (fun _ _ q => c_X0_modulus q) hX (fun v21 h20 H locs wd hX => ?_)
        refine mh_callSI cx wd [.int (x3 - v18), .int v21] yw_J9_floorMod_7cf53 sw_X2_106 rfl hl.1 rfl (Nat.le_of_ble_eq_true rfl) dX2_oftenByWheel_48 ⟨Nat.le_of_ble_eq_true rfl, Nat.le_of_ble_eq_true rfl⟩ ⟨Nat.le_refl _, Nat.le_refl _⟩ (fun _ _ q => c_J9_floorMod_7cf53 q) hX (fun v23 h22 H locs wd hX => ?_)
        refine lv_istore (lv' := [(6, .int v23), (4, .int v15), (0, .ref o0), (2, .int x2), (3, .int x3), (5, .int x5)]) hx hb dX2_oftenByWheel_51 hl (Nat.le_of_ble_eq_true rfl) rfl (fun ls hl => ?_)
        exact w_X2_oftenByWheel_b53 (f_X2_oftenByWheel_b16 n) cx hr ih mh_fu _ _ _ _ _ _ h22 _ _ ls wd (lv_sub hl [2, 3, 4, 1, 5, 0] rfl) hX
set_option maxRecDepth 100000 in
set_option maxHeartbeats 4000000 in
theorem w_X2_oftenByWheel_e {p : Program} {l : Launch} {e : Env} {s : State} {m : MethodId} {args : Array Value} {below : List Frame} {meth : Method} {c : Code} {D : va_G} {ks : Nat → ClassId} {L : List Nat} {r : Int32} {h' : mh_H} (cx : mh_C p m c cX2_oftenByWheel 7 s args RX2 meth D ks (mh_A L s.heap.size)) (hr : meth.sig.returnType = (some .int)) :
    ∀ (o0 : Nat) (x1 : Int32) (x2 : Int32) (h : mh_H) (H : Heap) (locs : List Loc) (ls : Array Slot), mh_W D ks L (mh_A L s.heap.size) s.heap h H locs → lv_has ls 7 [(0, .ref o0), (1, .int x1), (2, .int x2)] → f_X2_oftenByWheel_e o0 x1 x2 h = some (r, h') → W p l e (mh_rm 3) s m args below meth c H locs 0 0 (MQ below (mh_Qi D ks L s.heap.size r h') args s 0 0 (mh_A L s.heap.size)) (F0 m 0 ls []) := by
  intro o0 x1 x2 h H locs ls wd hl hX
  have hx := cx.1.1
  have hb := cx.1.2.1
  unfold f_X2_oftenByWheel_e at hX
  refine lv_iload_n hx hb dX2_oftenByWheel_0 rfl (lv_at hl 1 rfl) ?_
  refine lv_istore_n (lv' := [(3, .int x1), (0, .ref o0), (1, .int x1), (2, .int x2)]) hx hb dX2_oftenByWheel_1 rfl hl (Nat.le_of_ble_eq_true rfl) rfl (fun ls hl => ?_)
  refine lv_iconst (v := 0) hx hb dX2_oftenByWheel_2 (by decide) ?_
  refine mh_topi hX (fun v24 hX => ?_)
  refine lv_istore (lv' := [(4, .int v24), (3, .int x1), (0, .ref o0), (1, .int x1), (2, .int x2)]) hx hb dX2_oftenByWheel_3 hl (Nat.le_of_ble_eq_true rfl) rfl (fun ls hl => ?_)
  refine lv_aload_n hx hb dX2_oftenByWheel_5 rfl (lv_at hl 2 rfl) ?_
  refine mh_getR cx wd fl_X2_12 dX2_oftenByWheel_6 hX (fun a25 hX => ?_)
  refine mh_callVI cx wd [] (rfl : vwCl[1]? = some (RX1, TX1, 2)) yw_X1_count vw_X2_50 rfl hl.1 rfl (Nat.le_of_ble_eq_true rfl) dX2_oftenByWheel_9 ⟨Nat.le_of_ble_eq_true rfl, Nat.le_of_ble_eq_true rfl⟩ ⟨Nat.le_refl _, Nat.le_refl _⟩ (fun _ _ q => c_X1_count q) hX (fun v27 h26 H locs wd hX => ?_)
  refine lv_iconst (v := 2) hx hb dX2_oftenByWheel_12 (by decide) ?_
  refine lv_isub hx hb dX2_oftenByWheel_13 ?_
  refine mh_topi hX (fun v28 hX => ?_)
  refine lv_istore (lv' := [(5, .int v28), (4, .int v24), (3, .int x1), (0, .ref o0), (1, .int x1), (2, .int x2)]) hx hb dX2_oftenByWheel_14 hl (Nat.le_of_ble_eq_true rfl) rfl (fun ls hl => ?_)
  exact w_X2_oftenByWheel_b16 cx hr mh_fu _ _ _ _ _ h26 _ _ ls wd (lv_sub hl [3, 5, 2, 1, 0] rfl) hX
set_option maxRecDepth 100000 in
theorem c_X2_oftenByWheel {l : Launch} {L : List Nat} {h h' : mh_H} {r : Int32} {o0 : Nat} {x1 : Int32} {x2 : Int32} (hX : f_X2_oftenByWheel_e o0 x1 x2 h = some (r, h')) : mh_MI l yX2_oftenByWheel (Cond.code yX2_oftenByWheel cX2_oftenByWheel 7 (some .int) :: mh_TB) (mh_rm 3) [.ref o0, .int x1, .int x2] L h r h' :=
  mh_of (mc := 0) (ms := 0) (Qc := fun D ks sz => mh_Qi D ks L sz r h') (plainFor_of_name (by decide)) (Nat.le_of_ble_eq_true rfl) (fun p e s m below meth c D ks ls hr cx wd hl => by
    have hl : lv_has ls 7 [(0, .ref o0), (1, .int x1), (2, .int x2)] := hl
    exact w_X2_oftenByWheel_e cx hr o0 x1 x2 h _ _ ls wd hl hX)
def f_X2_often_b85 (t0 : Int64) (h : mh_H) : Option (Int64 × mh_H) :=
  some (t0, h)
def f_X2_often_e (o0 : Nat) (y1 : Int64) (x3 : Int32) (h : mh_H) : Option (Int64 × mh_H) :=
  mh_b2 (mh_cal h o0 2 (f_X2_size_e o0 y1 h)) fun w2 h1 =>
  if 0 < (lg_cmp w2 (0 : Int64)) then (
  (mh_gR h1 o0 2 2).bind fun a3 =>
  mh_b2 (mh_cal h1 a3 0 (f_X0_modulus_e a3 h1)) fun v5 h4 =>
  mh_nz ((v5).toInt64 = 0) <|
  mh_nm (((mh_lrem y1 ((v5).toInt64))).toInt32) fun v6 =>
  mh_b2 (mh_cal h4 o0 2 (f_X2_wheelFrom_e o0 v6 h4)) fun v8 h7 =>
  if 0 ≤ (lg_cmp y1 ((v8).toInt64)) then (
  (mh_gR h7 o0 2 0).bind fun a9 =>
  mh_b2 (mh_cal h7 a9 1 (f_X1_count_e a9 h7)) fun v11 h10 =>
  if x3 = (v11 - (1 : Int32)) then (
  mh_b2 (mh_cal h10 o0 2 (f_X2_beside_e o0 v6 h10)) fun v15 h14 =>
  f_X2_often_b85 (w2 - (v15).toInt64) h14) else
  mh_b2 (mh_cal h10 o0 2 (f_X2_oftenByWheel_e o0 v6 x3 h10)) fun v13 h12 =>
  f_X2_often_b85 ((v13).toInt64) h12) else
  mh_b2 (mh_cal h7 o0 2 (f_X2_oftenByTable_e o0 ((y1).toInt32) x3 h7)) fun v17 h16 =>
  some ((v17).toInt64, h16)) else
  some (w2, h1)
set_option maxRecDepth 100000 in
set_option maxHeartbeats 4000000 in
theorem w_X2_often_b85 {p : Program} {l : Launch} {e : Env} {s : State} {m : MethodId} {args : Array Value} {below : List Frame} {meth : Method} {c : Code} {D : va_G} {ks : Nat → ClassId} {L : List Nat} {r : Int64} {h' : mh_H} (cx : mh_C p m c cX2_often 7 s args RX2 meth D ks (mh_A L s.heap.size)) (hr : meth.sig.returnType = (some .long)) :
    ∀ (t0 : Int64) (h : mh_H) (H : Heap) (locs : List Loc) (ls : Array Slot), mh_W D ks L (mh_A L s.heap.size) s.heap h H locs → lv_has ls 7 [] → f_X2_often_b85 t0 h = some (r, h') → W p l e (mh_rm 5) s m args below meth c H locs 0 0 (MQ below (mh_Ql D ks L s.heap.size r h') args s 0 0 (mh_A L s.heap.size)) (F0 m 85 ls [.long t0]) := by
  intro t0 h H locs ls wd hl hX
  have hx := cx.1.1
  have hb := cx.1.2.1
  unfold f_X2_often_b85 at hX
  exact mh_lret cx wd hr hX dX2_often_85
set_option maxRecDepth 100000 in
set_option maxHeartbeats 4000000 in
theorem w_X2_often_e {p : Program} {l : Launch} {e : Env} {s : State} {m : MethodId} {args : Array Value} {below : List Frame} {meth : Method} {c : Code} {D : va_G} {ks : Nat → ClassId} {L : List Nat} {r : Int64} {h' : mh_H} (cx : mh_C p m c cX2_often 7 s args RX2 meth D ks (mh_A L s.heap.size)) (hr : meth.sig.returnType = (some .long)) :
    ∀ (o0 : Nat) (y1 : Int64) (x3 : Int32) (h : mh_H) (H : Heap) (locs : List Loc) (ls : Array Slot), mh_W D ks L (mh_A L s.heap.size) s.heap h H locs → lv_has ls 7 [(0, .ref o0), (1, .long y1), (3, .int x3)] → f_X2_often_e o0 y1 x3 h = some (r, h') → W p l e (mh_rm 5) s m args below meth c H locs 0 0 (MQ below (mh_Ql D ks L s.heap.size r h') args s 0 0 (mh_A L s.heap.size)) (F0 m 0 ls []) := by
  intro o0 y1 x3 h H locs ls wd hl hX
  have hx := cx.1.1
  have hb := cx.1.2.1
  unfold f_X2_often_e at hX
  refine lv_aload_n hx hb dX2_often_0 rfl (lv_at hl 0 rfl) ?_
  refine lv_lload_n hx hb dX2_often_1 rfl (lv_at hl 1 rfl) ?_
  refine mh_callVJ cx wd [.long y1] (rfl : vwCl[2]? = some (RX2, TX2, 5)) yw_X2_size vw_X2_95 rfl hl.1 rfl (Nat.le_of_ble_eq_true rfl) dX2_often_2 ⟨Nat.le_of_ble_eq_true rfl, Nat.le_of_ble_eq_true rfl⟩ ⟨Nat.le_refl _, Nat.le_refl _⟩ (fun _ _ q => c_X2_size q) hX (fun w2 h1 H locs wd hX => ?_)
  refine lv_lstore (lv' := [(4, .long w2), (0, .ref o0), (1, .long y1), (3, .int x3)]) hx hb dX2_often_5 hl (Nat.le_of_ble_eq_true rfl) rfl (fun ls hl => ?_)
  refine lv_lload hx hb dX2_often_7 (lv_at hl 0 rfl) ?_
  refine lv_lconst (v := 0) hx hb dX2_often_9 (by decide) ?_
  refine W.lcmp hx hb dX2_often_10 ?_
  refine lv_if_gt (tgt := 17) hx hb dX2_often_11 rfl (fun hc => (fun hX => ?_) ((mh_if hX).1 hc)) (fun hc => (fun hX => ?_) ((mh_if hX).2 hc))
  · refine lv_lload_n hx hb dX2_often_17 rfl (lv_at hl 2 rfl) ?_
    refine lv_aload_n hx hb dX2_often_18 rfl (lv_at hl 1 rfl) ?_
    refine mh_getR cx wd fl_X2_26 dX2_often_19 hX (fun a3 hX => ?_)
    refine mh_callVI cx wd [] (rfl : vwCl[0]? = some (RX0, TX0, 2)) yw_X0_modulus vw_X2_78 rfl hl.1 rfl (Nat.le_of_ble_eq_true rfl) dX2_often_22 ⟨Nat.le_of_ble_eq_true rfl, Nat.le_of_ble_eq_true rfl⟩ ⟨Nat.le_refl _, Nat.le_refl _⟩ (fun _ _ q => c_X0_modulus q) hX (fun v5 h4 H locs wd hX => ?_)
    refine lv_i2l hx hb dX2_often_25 rfl ?_
    obtain ⟨hz, hX⟩ := mh_nzk hX
    refine lv_lrem hx hb dX2_often_26 hz ?_
    refine lv_l2i hx hb dX2_often_27 rfl ?_
    refine mh_topi hX (fun v6 hX => ?_)
    refine lv_istore (lv' := [(6, .int v6), (4, .long w2), (0, .ref o0), (1, .long y1), (3, .int x3)]) hx hb dX2_often_28 hl (Nat.le_of_ble_eq_true rfl) rfl (fun ls hl => ?_)
    refine lv_lload_n hx hb dX2_often_30 rfl (lv_at hl 3 rfl) ?_
    refine lv_aload_n hx hb dX2_often_31 rfl (lv_at hl 2 rfl) ?_
    refine lv_iload hx hb dX2_often_32 (lv_at hl 0 rfl) ?_
    refine mh_callVI cx wd [.int v6] (rfl : vwCl[2]? = some (RX2, TX2, 5)) yw_X2_wheelFrom vw_X2_89 rfl hl.1 rfl (Nat.le_of_ble_eq_true rfl) dX2_often_34 ⟨Nat.le_of_ble_eq_true rfl, Nat.le_of_ble_eq_true rfl⟩ ⟨Nat.le_refl _, Nat.le_refl _⟩ (fun _ _ q => c_X2_wheelFrom q) hX (fun v8 h7 H locs wd hX => ?_)
    refine lv_i2l hx hb dX2_often_37 rfl ?_
    refine W.lcmp hx hb dX2_often_38 ?_
    refine lv_if_ge (tgt := 51) hx hb dX2_often_39 rfl (fun hc => (fun hX => ?_) ((mh_if hX).1 hc)) (fun hc => (fun hX => ?_) ((mh_if hX).2 hc))
    · refine lv_iload_n hx hb dX2_often_51 rfl (lv_at hl 4 rfl) ?_
      refine lv_aload_n hx hb dX2_often_52 rfl (lv_at hl 2 rfl) ?_
      refine mh_getR cx wd fl_X2_12 dX2_often_53 hX (fun a9 hX => ?_)
      refine mh_callVI cx wd [] (rfl : vwCl[1]? = some (RX1, TX1, 2)) yw_X1_count vw_X2_50 rfl hl.1 rfl (Nat.le_of_ble_eq_true rfl) dX2_often_56 ⟨Nat.le_of_ble_eq_true rfl, Nat.le_of_ble_eq_true rfl⟩ ⟨Nat.le_refl _, Nat.le_refl _⟩ (fun _ _ q => c_X1_count q) hX (fun v11 h10 H locs wd hX => ?_)
      refine lv_iconst (v := 1) hx hb dX2_often_59 (by decide) ?_
      refine lv_isub hx hb dX2_often_60 ?_
      refine lv_icmp_ne (tgt := 77) hx hb dX2_often_61 rfl (fun hc => (fun hX => ?_) ((mh_if hX).2 hc)) (fun hc => (fun hX => ?_) ((mh_if hX).1 hc))
      · refine lv_aload_n hx hb dX2_often_77 rfl (lv_at hl 2 rfl) ?_
        refine lv_iload hx hb dX2_often_78 (lv_at hl 0 rfl) ?_
        refine lv_iload_n hx hb dX2_often_80 rfl (lv_at hl 4 rfl) ?_
        refine mh_callVI cx wd [.int v6, .int x3] (rfl : vwCl[2]? = some (RX2, TX2, 5)) yw_X2_oftenByWheel vw_X2_103 rfl hl.1 rfl (Nat.le_of_ble_eq_true rfl) dX2_often_81 ⟨Nat.le_of_ble_eq_true rfl, Nat.le_of_ble_eq_true rfl⟩ ⟨Nat.le_refl _, Nat.le_refl _⟩ (fun _ _ q => c_X2_oftenByWheel q) hX (fun v13 h12 H locs wd hX => ?_)
        refine lv_i2l hx hb dX2_often_84 rfl ?_
        exact w_X2_often_b85 cx hr _ h12 _ _ ls wd (lv_sub hl [] rfl) hX
      · refine lv_lload hx hb dX2_often_64 (lv_at hl 1 rfl) ?_
        refine lv_aload_n hx hb dX2_often_66 rfl (lv_at hl 2 rfl) ?_
        refine lv_iload hx hb dX2_often_67 (lv_at hl 0 rfl) ?_
        refine mh_callVI cx wd [.int v6] (rfl : vwCl[2]? = some (RX2, TX2, 5)) yw_X2_beside vw_X2_75 rfl hl.1 rfl (Nat.le_of_ble_eq_true rfl) dX2_often_69 ⟨Nat.le_of_ble_eq_true rfl, Nat.le_of_ble_eq_true rfl⟩ ⟨Nat.le_refl _, Nat.le_refl _⟩ (fun _ _ q => c_X2_beside q) hX (fun v15 h14 H locs wd hX => ?_)
        refine lv_i2l hx hb dX2_often_72 rfl ?_
        refine lv_lsub hx hb dX2_often_73 ?_
        refine lv_goto (tgt := 85) hx hb dX2_often_74 rfl ?_
        exact w_X2_often_b85 cx hr _ h14 _ _ ls wd (lv_sub hl [] rfl) hX
    · refine lv_aload_n hx hb dX2_often_42 rfl (lv_at hl 2 rfl) ?_
      refine lv_lload_n hx hb dX2_often_43 rfl (lv_at hl 3 rfl) ?_
      refine lv_l2i hx hb dX2_often_44 rfl ?_
      refine lv_iload_n hx hb dX2_often_45 rfl (lv_at hl 4 rfl) ?_
      refine mh_callVI cx wd [.int ((y1).toInt32), .int x3] (rfl : vwCl[2]? = some (RX2, TX2, 5)) yw_X2_oftenByTable vw_X2_99 rfl hl.1 rfl (Nat.le_of_ble_eq_true rfl) dX2_often_46 ⟨Nat.le_of_ble_eq_true rfl, Nat.le_of_ble_eq_true rfl⟩ ⟨Nat.le_refl _, Nat.le_refl _⟩ (fun _ _ q => c_X2_oftenByTable q) hX (fun v17 h16 H locs wd hX => ?_)
      refine lv_i2l hx hb dX2_often_49 rfl ?_
      exact mh_lret cx wd hr hX dX2_often_50
  · refine lv_lload hx hb dX2_often_14 (lv_at hl 0 rfl) ?_
    exact mh_lret cx wd hr hX dX2_often_16
set_option maxRecDepth 100000 in
theorem c_X2_often {l : Launch} {L : List Nat} {h h' : mh_H} {r : Int64} {o0 : Nat} {y1 : Int64} {x3 : Int32} (hX : f_X2_often_e o0 y1 x3 h = some (r, h')) : mh_MJ l yX2_often (Cond.code yX2_often cX2_often 7 (some .long) :: mh_TB) (mh_rm 5) [.ref o0, .long y1, .int x3] L h r h' :=
  mh_of (mc := 0) (ms := 0) (Qc := fun D ks sz => mh_Ql D ks L sz r h') (plainFor_of_name (by decide)) (Nat.le_of_ble_eq_true rfl) (fun p e s m below meth c D ks ls hr cx wd hl => by
    have hl : lv_has ls 7 [(0, .ref o0), (1, .long y1), (3, .int x3)] := hl
    exact w_X2_often_e cx hr o0 y1 x3 h _ _ ls wd hl hX)
def f_X2_allUpTo_b26 (x2 : Int32) (h : mh_H) : Option (Int32 × mh_H) :=
  some (x2, h)
def f_X2_allUpTo_b34 (x2 : Int32) (h : mh_H) : Option (Int32 × mh_H) :=
  some (x2, h)
def f_X2_allUpTo_b2 : Nat → Nat → Int32 → Int32 → mh_H → Option (Int32 × mh_H)
  | 0, _, _, _, _ => none
  | n + 1, o0, x1, x2, h =>
    if (89999 : Int32) ≤ x2 then (
    f_X2_allUpTo_b34 x2 h) else
    mh_b2 (mh_cal h o0 2 (f_X2_sizeInTable_e o0 (x2 + (1 : Int32)) h)) fun v2 h1 =>
    if v2 = (-1 : Int32) then (
    f_X2_allUpTo_b26 x2 h1) else
    if v2 ≤ x1 then (
    mh_nm (x2 + Int32.ofInt (1)) fun v3 =>
    f_X2_allUpTo_b2 n o0 x1 v3 h1) else
    f_X2_allUpTo_b26 x2 h1
def f_X2_allUpTo_e (o0 : Nat) (x1 : Int32) (h : mh_H) : Option (Int32 × mh_H) :=
  mh_nm (0 : Int32) fun v4 =>
  f_X2_allUpTo_b2 mh_fu o0 x1 v4 h
set_option maxRecDepth 100000 in
set_option maxHeartbeats 4000000 in
theorem w_X2_allUpTo_b26 {p : Program} {l : Launch} {e : Env} {s : State} {m : MethodId} {args : Array Value} {below : List Frame} {meth : Method} {c : Code} {D : va_G} {ks : Nat → ClassId} {L : List Nat} {r : Int32} {h' : mh_H} (cx : mh_C p m c cX2_allUpTo 4 s args RX2 meth D ks (mh_A L s.heap.size)) (hr : meth.sig.returnType = (some .int)) :
    ∀ (x2 : Int32) (h : mh_H) (H : Heap) (locs : List Loc) (ls : Array Slot), mh_W D ks L (mh_A L s.heap.size) s.heap h H locs → lv_has ls 4 [(2, .int x2)] → f_X2_allUpTo_b26 x2 h = some (r, h') → W p l e (mh_rm 3) s m args below meth c H locs 0 0 (MQ below (mh_Qi D ks L s.heap.size r h') args s 0 0 (mh_A L s.heap.size)) (F0 m 26 ls []) := by
  intro x2 h H locs ls wd hl hX
  have hx := cx.1.1
  have hb := cx.1.2.1
  unfold f_X2_allUpTo_b26 at hX
  refine lv_iload_n hx hb dX2_allUpTo_26 rfl (lv_at hl 0 rfl) ?_
  exact mh_iret cx wd hr hX dX2_allUpTo_27
set_option maxRecDepth 100000 in
set_option maxHeartbeats 4000000 in
theorem w_X2_allUpTo_b34 {p : Program} {l : Launch} {e : Env} {s : State} {m : MethodId} {args : Array Value} {below : List Frame} {meth : Method} {c : Code} {D : va_G} {ks : Nat → ClassId} {L : List Nat} {r : Int32} {h' : mh_H} (cx : mh_C p m c cX2_allUpTo 4 s args RX2 meth D ks (mh_A L s.heap.size)) (hr : meth.sig.returnType = (some .int)) :
    ∀ (x2 : Int32) (h : mh_H) (H : Heap) (locs : List Loc) (ls : Array Slot), mh_W D ks L (mh_A L s.heap.size) s.heap h H locs → lv_has ls 4 [(2, .int x2)] → f_X2_allUpTo_b34 x2 h = some (r, h') → W p l e (mh_rm 3) s m args below meth c H locs 0 0 (MQ below (mh_Qi D ks L s.heap.size r h') args s 0 0 (mh_A L s.heap.size)) (F0 m 34 ls []) := by
  intro x2 h H locs ls wd hl hX
  have hx := cx.1.1
  have hb := cx.1.2.1
  unfold f_X2_allUpTo_b34 at hX
  refine lv_iload_n hx hb dX2_allUpTo_34 rfl (lv_at hl 0 rfl) ?_
  exact mh_iret cx wd hr hX dX2_allUpTo_35
set_option maxRecDepth 100000 in
set_option maxHeartbeats 4000000 in
theorem w_X2_allUpTo_b2 {p : Program} {l : Launch} {e : Env} {s : State} {m : MethodId} {args : Array Value} {below : List Frame} {meth : Method} {c : Code} {D : va_G} {ks : Nat → ClassId} {L : List Nat} {r : Int32} {h' : mh_H} (cx : mh_C p m c cX2_allUpTo 4 s args RX2 meth D ks (mh_A L s.heap.size)) (hr : meth.sig.returnType = (some .int)) :
    ∀ n : Nat, ∀ (o0 : Nat) (x1 : Int32) (x2 : Int32) (h : mh_H) (H : Heap) (locs : List Loc) (ls : Array Slot), mh_W D ks L (mh_A L s.heap.size) s.heap h H locs → lv_has ls 4 [(0, .ref o0), (1, .int x1), (2, .int x2)] → f_X2_allUpTo_b2 n o0 x1 x2 h = some (r, h') → W p l e (mh_rm 3) s m args below meth c H locs 0 0 (MQ below (mh_Qi D ks L s.heap.size r h') args s 0 0 (mh_A L s.heap.size)) (F0 m 2 ls []) := by
  intro n
  induction n with
  | zero =>
    intro o0 x1 x2 h H locs ls wd hl hX
    cases hX
  | succ n ih =>
    intro o0 x1 x2 h H locs ls wd hl hX
    have hx := cx.1.1
    have hb := cx.1.2.1
    rw [f_X2_allUpTo_b2] at hX
    refine lv_iload_n hx hb dX2_allUpTo_2 rfl (lv_at hl 2 rfl) ?_
    refine mh_ldc cx kc_X2_115 dX2_allUpTo_3 ?_
    refine lv_icmp_ge (tgt := 34) hx hb dX2_allUpTo_5 rfl (fun hc => (fun hX => ?_) ((mh_if hX).1 hc)) (fun hc => (fun hX => ?_) ((mh_if hX).2 hc))
    · exact w_X2_allUpTo_b34 cx hr _ h _ _ ls wd (lv_sub hl [2] rfl) hX
    · refine lv_aload_n hx hb dX2_allUpTo_8 rfl (lv_at hl 0 rfl) ?_
      refine lv_iload_n hx hb dX2_allUpTo_9 rfl (lv_at hl 2 rfl) ?_
      refine lv_iconst (v := 1) hx hb dX2_allUpTo_10 (by decide) ?_
      refine lv_iadd hx hb dX2_allUpTo_11 ?_
      refine mh_callVI cx wd [.int (x2 + (1 : Int32))] (rfl : vwCl[2]? = some (RX2, TX2, 5)) yw_X2_sizeInTable vw_X2_92 rfl hl.1 rfl (Nat.le_of_ble_eq_true rfl) dX2_allUpTo_12 ⟨Nat.le_of_ble_eq_true rfl, Nat.le_of_ble_eq_true rfl⟩ ⟨Nat.le_refl _, Nat.le_refl _⟩ (fun _ _ q => c_X2_sizeInTable q) hX (fun v2 h1 H locs wd hX => ?_)
      refine lv_istore_n (lv' := [(3, .int v2), (0, .ref o0), (1, .int x1), (2, .int x2)]) hx hb dX2_allUpTo_15 rfl hl (Nat.le_of_ble_eq_true rfl) rfl (fun ls hl => ?_)
      refine lv_iload_n hx hb dX2_allUpTo_16 rfl (lv_at hl 0 rfl) ?_
      refine lv_iconst (v := (-1)) hx hb dX2_allUpTo_17 (by decide) ?_
      refine lv_icmp_eq (tgt := 26) hx hb dX2_allUpTo_18 rfl (fun hc => (fun hX => ?_) ((mh_if hX).1 hc)) (fun hc => (fun hX => ?_) ((mh_if hX).2 hc))
      · exact w_X2_allUpTo_b26 cx hr _ h1 _ _ ls wd (lv_sub hl [3] rfl) hX
      · refine lv_iload_n hx hb dX2_allUpTo_21 rfl (lv_at hl 0 rfl) ?_
        refine lv_iload_n hx hb dX2_allUpTo_22 rfl (lv_at hl 2 rfl) ?_
        refine lv_icmp_le (tgt := 28) hx hb dX2_allUpTo_23 rfl (fun hc => (fun hX => ?_) ((mh_if hX).1 hc)) (fun hc => (fun hX => ?_) ((mh_if hX).2 hc))
        · obtain ⟨v3, ev3, hX⟩ := mh_nmx hX
          refine lv_iinc (k := 3) (v := v3) (lv' := [(2, .int v3), (3, .int v2), (0, .ref o0), (1, .int x1)]) hx hb dX2_allUpTo_28 hl rfl ev3 (Nat.le_of_ble_eq_true rfl) rfl (fun ls hl => ?_)
          refine lv_goto (tgt := 2) hx hb dX2_allUpTo_31 rfl ?_
          exact ih _ _ _ h1 _ _ ls wd (lv_sub hl [2, 3, 0] rfl) hX
        · exact w_X2_allUpTo_b26 cx hr _ h1 _ _ ls wd (lv_sub hl [3] rfl) hX
set_option maxRecDepth 100000 in
set_option maxHeartbeats 4000000 in
theorem w_X2_allUpTo_e {p : Program} {l : Launch} {e : Env} {s : State} {m : MethodId} {args : Array Value} {below : List Frame} {meth : Method} {c : Code} {D : va_G} {ks : Nat → ClassId} {L : List Nat} {r : Int32} {h' : mh_H} (cx : mh_C p m c cX2_allUpTo 4 s args RX2 meth D ks (mh_A L s.heap.size)) (hr : meth.sig.returnType = (some .int)) :
    ∀ (o0 : Nat) (x1 : Int32) (h : mh_H) (H : Heap) (locs : List Loc) (ls : Array Slot), mh_W D ks L (mh_A L s.heap.size) s.heap h H locs → lv_has ls 4 [(0, .ref o0), (1, .int x1)] → f_X2_allUpTo_e o0 x1 h = some (r, h') → W p l e (mh_rm 3) s m args below meth c H locs 0 0 (MQ below (mh_Qi D ks L s.heap.size r h') args s 0 0 (mh_A L s.heap.size)) (F0 m 0 ls []) := by
  intro o0 x1 h H locs ls wd hl hX
  have hx := cx.1.1
  have hb := cx.1.2.1
  unfold f_X2_allUpTo_e at hX
  refine lv_iconst (v := 0) hx hb dX2_allUpTo_0 (by decide) ?_
  refine mh_topi hX (fun v4 hX => ?_)
  refine lv_istore_n (lv' := [(2, .int v4), (0, .ref o0), (1, .int x1)]) hx hb dX2_allUpTo_1 rfl hl (Nat.le_of_ble_eq_true rfl) rfl (fun ls hl => ?_)
  exact w_X2_allUpTo_b2 cx hr mh_fu _ _ _ h _ _ ls wd (lv_sub hl [1, 2, 0] rfl) hX
set_option maxRecDepth 100000 in
theorem c_X2_allUpTo {l : Launch} {L : List Nat} {h h' : mh_H} {r : Int32} {o0 : Nat} {x1 : Int32} (hX : f_X2_allUpTo_e o0 x1 h = some (r, h')) : mh_MI l yX2_allUpTo (Cond.code yX2_allUpTo cX2_allUpTo 4 (some .int) :: mh_TB) (mh_rm 3) [.ref o0, .int x1] L h r h' :=
  mh_of (mc := 0) (ms := 0) (Qc := fun D ks sz => mh_Qi D ks L sz r h') (plainFor_of_name (by decide)) (Nat.le_of_ble_eq_true rfl) (fun p e s m below meth c D ks ls hr cx wd hl => by
    have hl : lv_has ls 4 [(0, .ref o0), (1, .int x1)] := hl
    exact w_X2_allUpTo_e cx hr o0 x1 h _ _ ls wd hl hX)
def f_X2_togetherOfRest_b61 (h : mh_H) : Option (Int64 × mh_H) :=
  some ((-1 : Int64), h)
def f_X2_togetherOfRest_b53 (k23 : Nat → Int32 → Int32 → Int32 → Int64 → Int32 → mh_H → Option (Int64 × mh_H)) (o0 : Nat) (x2 : Int32) (x3 : Int32) (x4 : Int32) (y5 : Int64) (x7 : Int32) (t0 : Int32) (h : mh_H) : Option (Int64 × mh_H) :=
  if t0 = (-1 : Int32) then (
  f_X2_togetherOfRest_b61 h) else
  mh_nm (y5 + (t0).toInt64) fun w1 =>
  mh_nm (x7 + x3) fun v2 =>
  k23 o0 x2 x3 x4 w1 v2 h
def f_X2_togetherOfRest_b82 (o0 : Nat) (x2 : Int32) (x3 : Int32) (y5 : Int64) (x7 : Int32) (h : mh_H) : Option (Int64 × mh_H) :=
  if x7 ≤ x2 then (
  mh_nz (x3 = 0) <|
  mh_nm ((((x2 - x7) / x3)).toInt64) fun w3 =>
  mh_b2 (mh_cal h o0 2 (f_X2_size_e o0 ((x7).toInt64) h)) fun w5 h4 =>
  mh_nz ((2 : Int64) = 0) <|
  some (((y5 + ((w3 + (1 : Int64)) * w5)) + ((w3 * (w3 + (1 : Int64))) / (2 : Int64))), h4)) else
  some (y5, h)
def f_X2_togetherOfRest_b23 : Nat → Nat → Int32 → Int32 → Int32 → Int64 → Int32 → mh_H → Option (Int64 × mh_H)
  | 0, _, _, _, _, _, _, _ => none
  | n + 1, o0, x2, x3, x4, y5, x7, h =>
    if x2 < x7 then (
    f_X2_togetherOfRest_b82 o0 x2 x3 y5 x7 h) else
    if x4 ≤ x7 then (
    f_X2_togetherOfRest_b82 o0 x2 x3 y5 x7 h) else
    if x4 = (2147483647 : Int32) then (
    f_X2_togetherOfRest_b53 (f_X2_togetherOfRest_b23 n) o0 x2 x3 x4 y5 x7 (-1 : Int32) h) else
    mh_b2 (mh_cal h o0 2 (f_X2_sizeInTable_e o0 x7 h)) fun v7 h6 =>
    f_X2_togetherOfRest_b53 (f_X2_togetherOfRest_b23 n) o0 x2 x3 x4 y5 x7 v7 h6
def f_X2_togetherOfRest_e (o0 : Nat) (x1 : Int32) (x2 : Int32) (h : mh_H) : Option (Int64 × mh_H) :=
  (mh_gR h o0 2 2).bind fun a8 =>
  mh_b2 (mh_cal h a8 0 (f_X0_modulus_e a8 h)) fun v10 h9 =>
  mh_nz (v10 = 0) <|
  mh_b2 (mh_cal h9 o0 2 (f_X2_wheelFrom_e o0 (mh_irem x1 v10) h9)) fun v12 h11 =>
  mh_nm (0 : Int64) fun w13 =>
  f_X2_togetherOfRest_b23 mh_fu o0 x2 v10 v12 w13 x1 h11
set_option maxRecDepth 100000 in
set_option maxHeartbeats 4000000 in
theorem w_X2_togetherOfRest_b61 {p : Program} {l : Launch} {e : Env} {s : State} {m : MethodId} {args : Array Value} {below : List Frame} {meth : Method} {c : Code} {D : va_G} {ks : Nat → ClassId} {L : List Nat} {r : Int64} {h' : mh_H} (cx : mh_C p m c cX2_togetherOfRest 10 s args RX2 meth D ks (mh_A L s.heap.size)) (hr : meth.sig.returnType = (some .long)) :
    ∀ (h : mh_H) (H : Heap) (locs : List Loc) (ls : Array Slot), mh_W D ks L (mh_A L s.heap.size) s.heap h H locs → lv_has ls 10 [] → f_X2_togetherOfRest_b61  h = some (r, h') → W p l e (mh_rm 5) s m args below meth c H locs 0 0 (MQ below (mh_Ql D ks L s.heap.size r h') args s 0 0 (mh_A L s.heap.size)) (F0 m 61 ls []) := by
  intro  h H locs ls wd hl hX
  have hx := cx.1.1
  have hb := cx.1.2.1
  unfold f_X2_togetherOfRest_b61 at hX
  refine mh_ldc2 cx kl_X2_84 dX2_togetherOfRest_61 ?_
  exact mh_lret cx wd hr hX dX2_togetherOfRest_64
set_option maxRecDepth 100000 in
set_option maxHeartbeats 4000000 in
theorem w_X2_togetherOfRest_b53 {p : Program} {l : Launch} {e : Env} {s : State} {m : MethodId} {args : Array Value} {below : List Frame} {meth : Method} {c : Code} {D : va_G} {ks : Nat → ClassId} {L : List Nat} {r : Int64} {h' : mh_H} (k23 : Nat → Int32 → Int32 → Int32 → Int64 → Int32 → mh_H → Option (Int64 × mh_H)) (cx : mh_C p m c cX2_togetherOfRest 10 s args RX2 meth D ks (mh_A L s.heap.size)) (hr : meth.sig.returnType = (some .long))
    (hk23 : ∀ (o0 : Nat) (x2 : Int32) (x3 : Int32) (x4 : Int32) (y5 : Int64) (x7 : Int32) (h : mh_H) (H : Heap) (locs : List Loc) (ls : Array Slot), mh_W D ks L (mh_A L s.heap.size) s.heap h H locs → lv_has ls 10 [(0, .ref o0), (2, .int x2), (3, .int x3), (4, .int x4), (5, .long y5), (7, .int x7)] → k23 o0 x2 x3 x4 y5 x7 h = some (r, h') → W p l e (mh_rm 5) s m args below meth c H locs 0 0 (MQ below (mh_Ql D ks L s.heap.size r h') args s 0 0 (mh_A L s.heap.size)) (F0 m 23 ls [])) :
    ∀ (o0 : Nat) (x2 : Int32) (x3 : Int32) (x4 : Int32) (y5 : Int64) (x7 : Int32) (t0 : Int32) (h : mh_H) (H : Heap) (locs : List Loc) (ls : Array Slot), mh_W D ks L (mh_A L s.heap.size) s.heap h H locs → lv_has ls 10 [(0, .ref o0), (2, .int x2), (3, .int x3), (4, .int x4), (5, .long y5), (7, .int x7)] → f_X2_togetherOfRest_b53 k23 o0 x2 x3 x4 y5 x7 t0 h = some (r, h') → W p l e (mh_rm 5) s m args below meth c H locs 0 0 (MQ below (mh_Ql D ks L s.heap.size r h') args s 0 0 (mh_A L s.heap.size)) (F0 m 53 ls [.int t0]) := by
  intro o0 x2 x3 x4 y5 x7 t0 h H locs ls wd hl hX
  have hx := cx.1.1
  have hb := cx.1.2.1
  unfold f_X2_togetherOfRest_b53 at hX
  refine lv_istore (lv' := [(8, .int t0), (0, .ref o0), (2, .int x2), (3, .int x3), (4, .int x4), (5, .long y5), (7, .int x7)]) hx hb dX2_togetherOfRest_53 hl (Nat.le_of_ble_eq_true rfl) rfl (fun ls hl => ?_)
  refine lv_iload hx hb dX2_togetherOfRest_55 (lv_at hl 0 rfl) ?_
  refine lv_iconst (v := (-1)) hx hb dX2_togetherOfRest_57 (by decide) ?_
  refine lv_icmp_ne (tgt := 65) hx hb dX2_togetherOfRest_58 rfl (fun hc => (fun hX => ?_) ((mh_if hX).2 hc)) (fun hc => (fun hX => ?_) ((mh_if hX).1 hc))
  · refine lv_lload hx hb dX2_togetherOfRest_65 (lv_at hl 5 rfl) ?_
    refine lv_iload hx hb dX2_togetherOfRest_67 (lv_at hl 0 rfl) ?_
    refine lv_i2l hx hb dX2_togetherOfRest_69 rfl ?_
    refine lv_ladd hx hb dX2_togetherOfRest_70 ?_
    refine mh_topl hX (fun w1 hX => ?_)
    refine lv_lstore (lv' := [(5, .long w1), (8, .int t0), (0, .ref o0), (2, .int x2), (3, .int x3), (4, .int x4), (7, .int x7)]) hx hb dX2_togetherOfRest_71 hl (Nat.le_of_ble_eq_true rfl) rfl (fun ls hl => ?_)
    refine lv_iload hx hb dX2_togetherOfRest_73 (lv_at hl 6 rfl) ?_
    refine lv_iload_n hx hb dX2_togetherOfRest_75 rfl (lv_at hl 4 rfl) ?_
    refine lv_iadd hx hb dX2_togetherOfRest_76 ?_
    refine mh_topi hX (fun v2 hX => ?_)
    refine lv_istore (lv' := [(7, .int v2), (5, .long w1), (8, .int t0), (0, .ref o0), (2, .int x2), (3, .int x3), (4, .int x4)]) hx hb dX2_togetherOfRest_77 hl (Nat.le_of_ble_eq_true rfl) rfl (fun ls hl => ?_)
    refine lv_goto (tgt := 23) hx hb dX2_togetherOfRest_79 rfl ?_
    exact hk23 _ _ _ _ _ _ h _ _ ls wd (lv_sub hl [3, 4, 5, 6, 1, 0] rfl) hX
  · exact w_X2_togetherOfRest_b61 cx hr  h _ _ ls wd (lv_sub hl [] rfl) hX
set_option maxRecDepth 100000 in
set_option maxHeartbeats 4000000 in
theorem w_X2_togetherOfRest_b82 {p : Program} {l : Launch} {e : Env} {s : State} {m : MethodId} {args : Array Value} {below : List Frame} {meth : Method} {c : Code} {D : va_G} {ks : Nat → ClassId} {L : List Nat} {r : Int64} {h' : mh_H} (cx : mh_C p m c cX2_togetherOfRest 10 s args RX2 meth D ks (mh_A L s.heap.size)) (hr : meth.sig.returnType = (some .long)) :
    ∀ (o0 : Nat) (x2 : Int32) (x3 : Int32) (y5 : Int64) (x7 : Int32) (h : mh_H) (H : Heap) (locs : List Loc) (ls : Array Slot), mh_W D ks L (mh_A L s.heap.size) s.heap h H locs → lv_has ls 10 [(0, .ref o0), (2, .int x2), (3, .int x3), (5, .long y5), (7, .int x7)] → f_X2_togetherOfRest_b82 o0 x2 x3 y5 x7 h = some (r, h') → W p l e (mh_rm 5) s m args below meth c H locs 0 0 (MQ below (mh_Ql D ks L s.heap.size r h') args s 0 0 (mh_A L s.heap.size)) (F0 m 82 ls []) := by
  intro o0 x2 x3 y5 x7 h H locs ls wd hl hX
  have hx := cx.1.1
  have hb := cx.1.2.1
  unfold f_X2_togetherOfRest_b82 at hX
  refine lv_iload hx hb dX2_togetherOfRest_82 (lv_at hl 4 rfl) ?_
  refine lv_iload_n hx hb dX2_togetherOfRest_84 rfl (lv_at hl 1 rfl) ?_
  refine lv_icmp_le (tgt := 91) hx hb dX2_togetherOfRest_85 rfl (fun hc => (fun hX => ?_) ((mh_if hX).1 hc)) (fun hc => (fun hX => ?_) ((mh_if hX).2 hc))
  · refine lv_iload_n hx hb dX2_togetherOfRest_91 rfl (lv_at hl 1 rfl) ?_
    refine lv_iload hx hb dX2_togetherOfRest_92 (lv_at hl 4 rfl) ?_
    refine lv_isub hx hb dX2_togetherOfRest_94 ?_
    refine lv_iload_n hx hb dX2_togetherOfRest_95 rfl (lv_at hl 2 rfl) ?_
    obtain ⟨hz, hX⟩ := mh_nzk hX
    refine lv_idiv hx hb dX2_togetherOfRest_96 hz ?_
    refine lv_i2l hx hb dX2_togetherOfRest_97 rfl ?_
    refine mh_topl hX (fun w3 hX => ?_)
    refine lv_lstore (lv' := [(8, .long w3), (0, .ref o0), (2, .int x2), (3, .int x3), (5, .long y5), (7, .int x7)]) hx hb dX2_togetherOfRest_98 hl (Nat.le_of_ble_eq_true rfl) rfl (fun ls hl => ?_)
    refine lv_lload hx hb dX2_togetherOfRest_100 (lv_at hl 4 rfl) ?_
    refine lv_lload hx hb dX2_togetherOfRest_102 (lv_at hl 0 rfl) ?_
    refine lv_lconst (v := 1) hx hb dX2_togetherOfRest_104 (by decide) ?_
    refine lv_ladd hx hb dX2_togetherOfRest_105 ?_
    refine lv_aload_n hx hb dX2_togetherOfRest_106 rfl (lv_at hl 1 rfl) ?_
    refine lv_iload hx hb dX2_togetherOfRest_107 (lv_at hl 5 rfl) ?_
    refine lv_i2l hx hb dX2_togetherOfRest_109 rfl ?_
    refine mh_callVJ cx wd [.long ((x7).toInt64)] (rfl : vwCl[2]? = some (RX2, TX2, 5)) yw_X2_size vw_X2_95 rfl hl.1 rfl (Nat.le_of_ble_eq_true rfl) dX2_togetherOfRest_110 ⟨Nat.le_of_ble_eq_true rfl, Nat.le_of_ble_eq_true rfl⟩ ⟨Nat.le_refl _, Nat.le_refl _⟩ (fun _ _ q => c_X2_size q) hX (fun w5 h4 H locs wd hX => ?_)
    refine lv_lmul hx hb dX2_togetherOfRest_113 ?_
    refine lv_ladd hx hb dX2_togetherOfRest_114 ?_
    refine lv_lload hx hb dX2_togetherOfRest_115 (lv_at hl 0 rfl) ?_
    refine lv_lload hx hb dX2_togetherOfRest_117 (lv_at hl 0 rfl) ?_
    refine lv_lconst (v := 1) hx hb dX2_togetherOfRest_119 (by decide) ?_
    refine lv_ladd hx hb dX2_togetherOfRest_120 ?_
    refine lv_lmul hx hb dX2_togetherOfRest_121 ?_
    refine mh_ldc2 cx kl_X2_120 dX2_togetherOfRest_122 ?_
    obtain ⟨hz, hX⟩ := mh_nzk hX
    refine lv_ldiv hx hb dX2_togetherOfRest_125 hz ?_
    refine lv_ladd hx hb dX2_togetherOfRest_126 ?_
    exact mh_lret cx wd hr hX dX2_togetherOfRest_127
  · refine lv_lload hx hb dX2_togetherOfRest_88 (lv_at hl 3 rfl) ?_
    exact mh_lret cx wd hr hX dX2_togetherOfRest_90
set_option maxRecDepth 100000 in
set_option maxHeartbeats 4000000 in
theorem w_X2_togetherOfRest_b23 {p : Program} {l : Launch} {e : Env} {s : State} {m : MethodId} {args : Array Value} {below : List Frame} {meth : Method} {c : Code} {D : va_G} {ks : Nat → ClassId} {L : List Nat} {r : Int64} {h' : mh_H} (cx : mh_C p m c cX2_togetherOfRest 10 s args RX2 meth D ks (mh_A L s.heap.size)) (hr : meth.sig.returnType = (some .long)) :
    ∀ n : Nat, ∀ (o0 : Nat) (x2 : Int32) (x3 : Int32) (x4 : Int32) (y5 : Int64) (x7 : Int32) (h : mh_H) (H : Heap) (locs : List Loc) (ls : Array Slot), mh_W D ks L (mh_A L s.heap.size) s.heap h H locs → lv_has ls 10 [(0, .ref o0), (2, .int x2), (3, .int x3), (4, .int x4), (5, .long y5), (7, .int x7)] → f_X2_togetherOfRest_b23 n o0 x2 x3 x4 y5 x7 h = some (r, h') → W p l e (mh_rm 5) s m args below meth c H locs 0 0 (MQ below (mh_Ql D ks L s.heap.size r h') args s 0 0 (mh_A L s.heap.size)) (F0 m 23 ls []) := by
  intro n
  induction n with
  | zero =>
    intro o0 x2 x3 x4 y5 x7 h H locs ls wd hl hX
    cases hX
  | succ n ih =>
    intro o0 x2 x3 x4 y5 x7 h H locs ls wd hl hX
    have hx := cx.1.1
    have hb := cx.1.2.1
    rw [f_X2_togetherOfRest_b23] at hX
    refine lv_iload hx hb dX2_togetherOfRest_23 (lv_at hl 5 rfl) ?_
    refine lv_iload_n hx hb dX2_togetherOfRest_25 rfl (lv_at hl 1 rfl) ?_
    refine lv_icmp_gt (tgt := 82) hx hb dX2_togetherOfRest_26 rfl (fun hc => (fun hX => ?_) ((mh_if hX).1 hc)) (fun hc => (fun hX => ?_) ((mh_if hX).2 hc))
    · exact w_X2_togetherOfRest_b82 cx hr _ _ _ _ _ h _ _ ls wd (lv_sub hl [0, 1, 2, 4, 5] rfl) hX
    · refine lv_iload hx hb dX2_togetherOfRest_29 (lv_at hl 5 rfl) ?_
      refine lv_iload hx hb dX2_togetherOfRest_31 (lv_at hl 3 rfl) ?_
      refine lv_icmp_ge (tgt := 82) hx hb dX2_togetherOfRest_33 rfl (fun hc => (fun hX => ?_) ((mh_if hX).1 hc)) (fun hc => (fun hX => ?_) ((mh_if hX).2 hc))
      · exact w_X2_togetherOfRest_b82 cx hr _ _ _ _ _ h _ _ ls wd (lv_sub hl [0, 1, 2, 4, 5] rfl) hX
      · refine lv_iload hx hb dX2_togetherOfRest_36 (lv_at hl 3 rfl) ?_
        refine mh_ldc cx kc_X2_74 dX2_togetherOfRest_38 ?_
        refine lv_icmp_ne (tgt := 47) hx hb dX2_togetherOfRest_40 rfl (fun hc => (fun hX => ?_) ((mh_if hX).2 hc)) (fun hc => (fun hX => ?_) ((mh_if hX).1 hc))
        · refine lv_aload_n hx hb dX2_togetherOfRest_47 rfl (lv_at hl 0 rfl) ?_
          refine lv_iload hx hb dX2_togetherOfRest_48 (lv_at hl 5 rfl) ?_
          refine mh_callVI cx wd [.int x7] (rfl : vwCl[2]? = some (RX2, TX2, 5)) yw_X2_sizeInTable vw_X2_92 rfl hl.1 rfl (Nat.le_of_ble_eq_true rfl) dX2_togetherOfRest_50 ⟨Nat.le_of_ble_eq_true rfl, Nat.le_of_ble_eq_true rfl⟩ ⟨Nat.le_refl _, Nat.le_refl _⟩ (fun _ _ q => c_X2_sizeInTable q) hX (fun v7 h6 H locs wd hX => ?_)
          exact w_X2_togetherOfRest_b53 (f_X2_togetherOfRest_b23 n) cx hr ih _ _ _ _ _ _ _ h6 _ _ ls wd (lv_sub hl [0, 1, 2, 3, 4, 5] rfl) hX
        · refine lv_iconst (v := (-1)) hx hb dX2_togetherOfRest_43 (by decide) ?_
          refine lv_goto (tgt := 53) hx hb dX2_togetherOfRest_44 rfl ?_
          exact w_X2_togetherOfRest_b53 (f_X2_togetherOfRest_b23 n) cx hr ih _ _ _ _ _ _ _ h _ _ ls wd (lv_sub hl [0, 1, 2, 3, 4, 5] rfl) hX
set_option maxRecDepth 100000 in
set_option maxHeartbeats 4000000 in
theorem w_X2_togetherOfRest_e {p : Program} {l : Launch} {e : Env} {s : State} {m : MethodId} {args : Array Value} {below : List Frame} {meth : Method} {c : Code} {D : va_G} {ks : Nat → ClassId} {L : List Nat} {r : Int64} {h' : mh_H} (cx : mh_C p m c cX2_togetherOfRest 10 s args RX2 meth D ks (mh_A L s.heap.size)) (hr : meth.sig.returnType = (some .long)) :
    ∀ (o0 : Nat) (x1 : Int32) (x2 : Int32) (h : mh_H) (H : Heap) (locs : List Loc) (ls : Array Slot), mh_W D ks L (mh_A L s.heap.size) s.heap h H locs → lv_has ls 10 [(0, .ref o0), (1, .int x1), (2, .int x2)] → f_X2_togetherOfRest_e o0 x1 x2 h = some (r, h') → W p l e (mh_rm 5) s m args below meth c H locs 0 0 (MQ below (mh_Ql D ks L s.heap.size r h') args s 0 0 (mh_A L s.heap.size)) (F0 m 0 ls []) := by
  intro o0 x1 x2 h H locs ls wd hl hX
  have hx := cx.1.1
  have hb := cx.1.2.1
  unfold f_X2_togetherOfRest_e at hX
  refine lv_aload_n hx hb dX2_togetherOfRest_0 rfl (lv_at hl 0 rfl) ?_
  refine mh_getR cx wd fl_X2_26 dX2_togetherOfRest_1 hX (fun a8 hX => ?_)
  refine mh_callVI cx wd [] (rfl : vwCl[0]? = some (RX0, TX0, 2)) yw_X0_modulus vw_X2_78 rfl hl.1 rfl (Nat.le_of_ble_eq_true rfl) dX2_togetherOfRest_4 ⟨Nat.le_of_ble_eq_true rfl, Nat.le_of_ble_eq_true rfl⟩ ⟨Nat.le_refl _, Nat.le_refl _⟩ (fun _ _ q => c_X0_modulus q) hX (fun v10 h9 H locs wd hX => ?_)
  refine lv_istore_n (lv' := [(3, .int v10), (0, .ref o0), (1, .int x1), (2, .int x2)]) hx hb dX2_togetherOfRest_7 rfl hl (Nat.le_of_ble_eq_true rfl) rfl (fun ls hl => ?_)
  refine lv_aload_n hx hb dX2_togetherOfRest_8 rfl (lv_at hl 1 rfl) ?_
  refine lv_iload_n hx hb dX2_togetherOfRest_9 rfl (lv_at hl 2 rfl) ?_
  refine lv_iload_n hx hb dX2_togetherOfRest_10 rfl (lv_at hl 0 rfl) ?_
  obtain ⟨hz, hX⟩ := mh_nzk hX
  refine lv_irem hx hb dX2_togetherOfRest_11 hz ?_
  refine mh_callVI cx wd [.int (mh_irem x1 v10)] (rfl : vwCl[2]? = some (RX2, TX2, 5)) yw_X2_wheelFrom vw_X2_89 rfl hl.1 rfl (Nat.le_of_ble_eq_true rfl) dX2_togetherOfRest_12 ⟨Nat.le_of_ble_eq_true rfl, Nat.le_of_ble_eq_true rfl⟩ ⟨Nat.le_refl _, Nat.le_refl _⟩ (fun _ _ q => c_X2_wheelFrom q) hX (fun v12 h11 H locs wd hX => ?_)
  refine lv_istore (lv' := [(4, .int v12), (3, .int v10), (0, .ref o0), (1, .int x1), (2, .int x2)]) hx hb dX2_togetherOfRest_15 hl (Nat.le_of_ble_eq_true rfl) rfl (fun ls hl => ?_)
  refine lv_lconst (v := 0) hx hb dX2_togetherOfRest_17 (by decide) ?_
  refine mh_topl hX (fun w13 hX => ?_)
  refine lv_lstore (lv' := [(5, .long w13), (4, .int v12), (3, .int v10), (0, .ref o0), (1, .int x1), (2, .int x2)]) hx hb dX2_togetherOfRest_18 hl (Nat.le_of_ble_eq_true rfl) rfl (fun ls hl => ?_)
  refine lv_iload_n hx hb dX2_togetherOfRest_20 rfl (lv_at hl 4 rfl) ?_
  refine lv_istore (lv' := [(7, .int x1), (5, .long w13), (4, .int v12), (3, .int v10), (0, .ref o0), (1, .int x1), (2, .int x2)]) hx hb dX2_togetherOfRest_21 hl (Nat.le_of_ble_eq_true rfl) rfl (fun ls hl => ?_)
  exact w_X2_togetherOfRest_b23 cx hr mh_fu _ _ _ _ _ _ h11 _ _ ls wd (lv_sub hl [4, 6, 3, 2, 1, 0] rfl) hX
set_option maxRecDepth 100000 in
theorem c_X2_togetherOfRest {l : Launch} {L : List Nat} {h h' : mh_H} {r : Int64} {o0 : Nat} {x1 : Int32} {x2 : Int32} (hX : f_X2_togetherOfRest_e o0 x1 x2 h = some (r, h')) : mh_MJ l yX2_togetherOfRest (Cond.code yX2_togetherOfRest cX2_togetherOfRest 10 (some .long) :: mh_TB) (mh_rm 5) [.ref o0, .int x1, .int x2] L h r h' :=
  mh_of (mc := 0) (ms := 0) (Qc := fun D ks sz => mh_Ql D ks L sz r h') (plainFor_of_name (by decide)) (Nat.le_of_ble_eq_true rfl) (fun p e s m below meth c D ks ls hr cx wd hl => by
    have hl : lv_has ls 10 [(0, .ref o0), (1, .int x1), (2, .int x2)] := hl
    exact w_X2_togetherOfRest_e cx hr o0 x1 x2 h _ _ ls wd hl hX)
def f_X2_together_b21 (t0 : Int64) (h : mh_H) : Option (Int64 × mh_H) :=
  some (t0, h)
def f_X2_together_b69 (h : mh_H) : Option (Int64 × mh_H) :=
  some ((-1 : Int64), h)
def f_X2_together_b84 (y3 : Int64) (h : mh_H) : Option (Int64 × mh_H) :=
  some (y3, h)
def f_X2_together_b31 : Nat → Nat → Int32 → Int32 → Int64 → Int32 → mh_H → Option (Int64 × mh_H)
  | 0, _, _, _, _, _, _ => none
  | n + 1, o0, x1, x2, y3, x5, h =>
    if x2 < x5 then (
    f_X2_together_b84 y3 h) else
    (mh_gR h o0 2 2).bind fun a1 =>
    mh_b2 (mh_cal h a1 0 (f_X0_modulus_e a1 h)) fun v3 h2 =>
    if (x1 + v3) ≤ x5 then (
    f_X2_together_b84 y3 h2) else
    mh_b2 (mh_cal h2 o0 2 (f_X2_togetherOfRest_e o0 x5 x2 h2)) fun w5 h4 =>
    if (lg_cmp w5 (-1 : Int64)) = 0 then (
    f_X2_together_b69 h4) else
    mh_nm (y3 + w5) fun w6 =>
    mh_nm (x5 + Int32.ofInt (1)) fun v7 =>
    f_X2_together_b31 n o0 x1 x2 w6 v7 h4
def f_X2_together_e (o0 : Nat) (x1 : Int32) (x2 : Int32) (h : mh_H) : Option (Int64 × mh_H) :=
  (mh_gR h o0 2 0).bind fun a8 =>
  mh_b2 (mh_cal h a8 1 (f_X1_count_e a8 h)) fun v10 h9 =>
  if v10 = 0 then (
  if x2 = 0 then (
  f_X2_together_b21 (0 : Int64) h9) else
  f_X2_together_b21 (-1 : Int64) h9) else
  (mh_cal h9 o0 2 (f_X2_turn_e o0 h9)).bind fun h11 =>
  mh_nm (0 : Int64) fun w12 =>
  f_X2_together_b31 mh_fu o0 x1 x2 w12 x1 h11
set_option maxRecDepth 100000 in
set_option maxHeartbeats 4000000 in
theorem w_X2_together_b21 {p : Program} {l : Launch} {e : Env} {s : State} {m : MethodId} {args : Array Value} {below : List Frame} {meth : Method} {c : Code} {D : va_G} {ks : Nat → ClassId} {L : List Nat} {r : Int64} {h' : mh_H} (cx : mh_C p m c cX2_together 8 s args RX2 meth D ks (mh_A L s.heap.size)) (hr : meth.sig.returnType = (some .long)) :
    ∀ (t0 : Int64) (h : mh_H) (H : Heap) (locs : List Loc) (ls : Array Slot), mh_W D ks L (mh_A L s.heap.size) s.heap h H locs → lv_has ls 8 [] → f_X2_together_b21 t0 h = some (r, h') → W p l e (mh_rm 6) s m args below meth c H locs 0 0 (MQ below (mh_Ql D ks L s.heap.size r h') args s 0 0 (mh_A L s.heap.size)) (F0 m 21 ls [.long t0]) := by
  intro t0 h H locs ls wd hl hX
  have hx := cx.1.1
  have hb := cx.1.2.1
  unfold f_X2_together_b21 at hX
  exact mh_lret cx wd hr hX dX2_together_21
set_option maxRecDepth 100000 in
set_option maxHeartbeats 4000000 in
theorem w_X2_together_b69 {p : Program} {l : Launch} {e : Env} {s : State} {m : MethodId} {args : Array Value} {below : List Frame} {meth : Method} {c : Code} {D : va_G} {ks : Nat → ClassId} {L : List Nat} {r : Int64} {h' : mh_H} (cx : mh_C p m c cX2_together 8 s args RX2 meth D ks (mh_A L s.heap.size)) (hr : meth.sig.returnType = (some .long)) :
    ∀ (h : mh_H) (H : Heap) (locs : List Loc) (ls : Array Slot), mh_W D ks L (mh_A L s.heap.size) s.heap h H locs → lv_has ls 8 [] → f_X2_together_b69  h = some (r, h') → W p l e (mh_rm 6) s m args below meth c H locs 0 0 (MQ below (mh_Ql D ks L s.heap.size r h') args s 0 0 (mh_A L s.heap.size)) (F0 m 69 ls []) := by
  intro  h H locs ls wd hl hX
  have hx := cx.1.1
  have hb := cx.1.2.1
  unfold f_X2_together_b69 at hX
  refine mh_ldc2 cx kl_X2_84 dX2_together_69 ?_
  exact mh_lret cx wd hr hX dX2_together_72
set_option maxRecDepth 100000 in
set_option maxHeartbeats 4000000 in
theorem w_X2_together_b84 {p : Program} {l : Launch} {e : Env} {s : State} {m : MethodId} {args : Array Value} {below : List Frame} {meth : Method} {c : Code} {D : va_G} {ks : Nat → ClassId} {L : List Nat} {r : Int64} {h' : mh_H} (cx : mh_C p m c cX2_together 8 s args RX2 meth D ks (mh_A L s.heap.size)) (hr : meth.sig.returnType = (some .long)) :
    ∀ (y3 : Int64) (h : mh_H) (H : Heap) (locs : List Loc) (ls : Array Slot), mh_W D ks L (mh_A L s.heap.size) s.heap h H locs → lv_has ls 8 [(3, .long y3)] → f_X2_together_b84 y3 h = some (r, h') → W p l e (mh_rm 6) s m args below meth c H locs 0 0 (MQ below (mh_Ql D ks L s.heap.size r h') args s 0 0 (mh_A L s.heap.size)) (F0 m 84 ls []) := by
  intro y3 h H locs ls wd hl hX
  have hx := cx.1.1
  have hb := cx.1.2.1
  unfold f_X2_together_b84 at hX
  refine lv_lload_n hx hb dX2_together_84 rfl (lv_at hl 0 rfl) ?_
  exact mh_lret cx wd hr hX dX2_together_85
set_option maxRecDepth 100000 in
set_option maxHeartbeats 4000000 in
theorem w_X2_together_b31 {p : Program} {l : Launch} {e : Env} {s : State} {m : MethodId} {args : Array Value} {below : List Frame} {meth : Method} {c : Code} {D : va_G} {ks : Nat → ClassId} {L : List Nat} {r : Int64} {h' : mh_H} (cx : mh_C p m c cX2_together 8 s args RX2 meth D ks (mh_A L s.heap.size)) (hr : meth.sig.returnType = (some .long)) :
    ∀ n : Nat, ∀ (o0 : Nat) (x1 : Int32) (x2 : Int32) (y3 : Int64) (x5 : Int32) (h : mh_H) (H : Heap) (locs : List Loc) (ls : Array Slot), mh_W D ks L (mh_A L s.heap.size) s.heap h H locs → lv_has ls 8 [(0, .ref o0), (1, .int x1), (2, .int x2), (3, .long y3), (5, .int x5)] → f_X2_together_b31 n o0 x1 x2 y3 x5 h = some (r, h') → W p l e (mh_rm 6) s m args below meth c H locs 0 0 (MQ below (mh_Ql D ks L s.heap.size r h') args s 0 0 (mh_A L s.heap.size)) (F0 m 31 ls []) := by
  intro n
  induction n with
  | zero =>
    intro o0 x1 x2 y3 x5 h H locs ls wd hl hX
    cases hX
  | succ n ih =>
    intro o0 x1 x2 y3 x5 h H locs ls wd hl hX
    have hx := cx.1.1
    have hb := cx.1.2.1
    rw [f_X2_together_b31] at hX
    refine lv_iload hx hb dX2_together_31 (lv_at hl 4 rfl) ?_
    refine lv_iload_n hx hb dX2_together_33 rfl (lv_at hl 2 rfl) ?_
    refine lv_icmp_gt (tgt := 84) hx hb dX2_together_34 rfl (fun hc => (fun hX => ?_) ((mh_if hX).1 hc)) (fun hc => (fun hX => ?_) ((mh_if hX).2 hc))
    · exact w_X2_together_b84 cx hr _ h _ _ ls wd (lv_sub hl [3] rfl) hX
    · refine lv_iload hx hb dX2_together_37 (lv_at hl 4 rfl) ?_
      refine lv_iload_n hx hb dX2_together_39 rfl (lv_at hl 1 rfl) ?_
      refine lv_aload_n hx hb dX2_together_40 rfl (lv_at hl 0 rfl) ?_
      refine mh_getR cx wd fl_X2_26 dX2_together_41 hX (fun a1 hX => ?_)
      refine mh_callVI cx wd [] (rfl : vwCl[0]? = some (RX0, TX0, 2)) yw_X0_modulus vw_X2_78 rfl hl.1 rfl (Nat.le_of_ble_eq_true rfl) dX2_together_44 ⟨Nat.le_of_ble_eq_true rfl, Nat.le_of_ble_eq_true rfl⟩ ⟨Nat.le_refl _, Nat.le_refl _⟩ (fun _ _ q => c_X0_modulus q) hX (fun v3 h2 H locs wd hX => ?_)
      refine lv_iadd hx hb dX2_together_47 ?_
      refine lv_icmp_ge (tgt := 84) hx hb dX2_together_48 rfl (fun hc => (fun hX => ?_) ((mh_if hX).1 hc)) (fun hc => (fun hX => ?_) ((mh_if hX).2 hc))
      · exact w_X2_together_b84 cx hr _ h2 _ _ ls wd (lv_sub hl [3] rfl) hX
      · refine lv_aload_n hx hb dX2_together_51 rfl (lv_at hl 0 rfl) ?_
        refine lv_iload hx hb dX2_together_52 (lv_at hl 4 rfl) ?_
        refine lv_iload_n hx hb dX2_together_54 rfl (lv_at hl 2 rfl) ?_
        refine mh_callVJ cx wd [.int x5, .int x2] (rfl : vwCl[2]? = some (RX2, TX2, 5)) yw_X2_togetherOfRest vw_X2_116 rfl hl.1 rfl (Nat.le_of_ble_eq_true rfl) dX2_together_55 ⟨Nat.le_of_ble_eq_true rfl, Nat.le_of_ble_eq_true rfl⟩ ⟨Nat.le_refl _, Nat.le_refl _⟩ (fun _ _ q => c_X2_togetherOfRest q) hX (fun w5 h4 H locs wd hX => ?_)
        refine lv_lstore (lv' := [(6, .long w5), (0, .ref o0), (1, .int x1), (2, .int x2), (3, .long y3), (5, .int x5)]) hx hb dX2_together_58 hl (Nat.le_of_ble_eq_true rfl) rfl (fun ls hl => ?_)
        refine lv_lload hx hb dX2_together_60 (lv_at hl 0 rfl) ?_
        refine mh_ldc2 cx kl_X2_84 dX2_together_62 ?_
        refine W.lcmp hx hb dX2_together_65 ?_
        refine lv_if_ne (tgt := 73) hx hb dX2_together_66 rfl (fun hc => (fun hX => ?_) ((mh_if hX).2 hc)) (fun hc => (fun hX => ?_) ((mh_if hX).1 hc))
        · refine lv_lload_n hx hb dX2_together_73 rfl (lv_at hl 4 rfl) ?_
          refine lv_lload hx hb dX2_together_74 (lv_at hl 0 rfl) ?_
          refine lv_ladd hx hb dX2_together_76 ?_
          refine mh_topl hX (fun w6 hX => ?_)
          refine lv_lstore_n (lv' := [(3, .long w6), (6, .long w5), (0, .ref o0), (1, .int x1), (2, .int x2), (5, .int x5)]) hx hb dX2_together_77 rfl hl (Nat.le_of_ble_eq_true rfl) rfl (fun ls hl => ?_)
          obtain ⟨v7, ev7, hX⟩ := mh_nmx hX
          refine lv_iinc (k := 5) (v := v7) (lv' := [(5, .int v7), (3, .long w6), (6, .long w5), (0, .ref o0), (1, .int x1), (2, .int x2)]) hx hb dX2_together_78 hl rfl ev7 (Nat.le_of_ble_eq_true rfl) rfl (fun ls hl => ?_)
          refine lv_goto (tgt := 31) hx hb dX2_together_81 rfl ?_
          exact ih _ _ _ _ _ h4 _ _ ls wd (lv_sub hl [3, 4, 5, 1, 0] rfl) hX
        · exact w_X2_together_b69 cx hr  h4 _ _ ls wd (lv_sub hl [] rfl) hX
set_option maxRecDepth 100000 in
set_option maxHeartbeats 4000000 in
theorem w_X2_together_e {p : Program} {l : Launch} {e : Env} {s : State} {m : MethodId} {args : Array Value} {below : List Frame} {meth : Method} {c : Code} {D : va_G} {ks : Nat → ClassId} {L : List Nat} {r : Int64} {h' : mh_H} (cx : mh_C p m c cX2_together 8 s args RX2 meth D ks (mh_A L s.heap.size)) (hr : meth.sig.returnType = (some .long)) :
    ∀ (o0 : Nat) (x1 : Int32) (x2 : Int32) (h : mh_H) (H : Heap) (locs : List Loc) (ls : Array Slot), mh_W D ks L (mh_A L s.heap.size) s.heap h H locs → lv_has ls 8 [(0, .ref o0), (1, .int x1), (2, .int x2)] → f_X2_together_e o0 x1 x2 h = some (r, h') → W p l e (mh_rm 6) s m args below meth c H locs 0 0 (MQ below (mh_Ql D ks L s.heap.size r h') args s 0 0 (mh_A L s.heap.size)) (F0 m 0 ls []) := by
  intro o0 x1 x2 h H locs ls wd hl hX
  have hx := cx.1.1
  have hb := cx.1.2.1
  unfold f_X2_together_e at hX
  refine lv_aload_n hx hb dX2_together_0 rfl (lv_at hl 0 rfl) ?_
  refine mh_getR cx wd fl_X2_12 dX2_together_1 hX (fun a8 hX => ?_)
  refine mh_callVI cx wd [] (rfl : vwCl[1]? = some (RX1, TX1, 2)) yw_X1_count vw_X2_50 rfl hl.1 rfl (Nat.le_of_ble_eq_true rfl) dX2_together_4 ⟨Nat.le_of_ble_eq_true rfl, Nat.le_of_ble_eq_true rfl⟩ ⟨Nat.le_refl _, Nat.le_refl _⟩ (fun _ _ q => c_X1_count q) hX (fun v10 h9 H locs wd hX => ?_)
  refine lv_if_ne (tgt := 22) hx hb dX2_together_7 rfl (fun hc => (fun hX => ?_) ((mh_if hX).2 hc)) (fun hc => (fun hX => ?_) ((mh_if hX).1 hc))
  · refine lv_aload_n hx hb dX2_together_22 rfl (lv_at hl 0 rfl) ?_
    refine mh_callVV cx wd [] (rfl : vwCl[2]? = some (RX2, TX2, 5)) yw_X2_turn vw_X2_86 rfl hl.1 rfl (Nat.le_of_ble_eq_true rfl) dX2_together_23 ⟨Nat.le_of_ble_eq_true rfl, Nat.le_of_ble_eq_true rfl⟩ ⟨Nat.le_refl _, Nat.le_refl _⟩ (fun _ q => c_X2_turn q) hX (fun h11 H locs wd hX => ?_)
    refine lv_lconst (v := 0) hx hb dX2_together_26 (by decide) ?_
    refine mh_topl hX (fun w12 hX => ?_)
    refine lv_lstore_n (lv' := [(3, .long w12), (0, .ref o0), (1, .int x1), (2, .int x2)]) hx hb dX2_together_27 rfl hl (Nat.le_of_ble_eq_true rfl) rfl (fun ls hl => ?_)
    refine lv_iload_n hx hb dX2_together_28 rfl (lv_at hl 2 rfl) ?_
    refine lv_istore (lv' := [(5, .int x1), (3, .long w12), (0, .ref o0), (1, .int x1), (2, .int x2)]) hx hb dX2_together_29 hl (Nat.le_of_ble_eq_true rfl) rfl (fun ls hl => ?_)
    exact w_X2_together_b31 cx hr mh_fu _ _ _ _ _ h11 _ _ ls wd (lv_sub hl [2, 3, 4, 1, 0] rfl) hX
  · refine lv_iload_n hx hb dX2_together_10 rfl (lv_at hl 2 rfl) ?_
    refine lv_if_ne (tgt := 18) hx hb dX2_together_11 rfl (fun hc => (fun hX => ?_) ((mh_if hX).2 hc)) (fun hc => (fun hX => ?_) ((mh_if hX).1 hc))
    · refine mh_ldc2 cx kl_X2_84 dX2_together_18 ?_
      exact w_X2_together_b21 cx hr _ h9 _ _ ls wd (lv_sub hl [] rfl) hX
    · refine lv_lconst (v := 0) hx hb dX2_together_14 (by decide) ?_
      refine lv_goto (tgt := 21) hx hb dX2_together_15 rfl ?_
      exact w_X2_together_b21 cx hr _ h9 _ _ ls wd (lv_sub hl [] rfl) hX
set_option maxRecDepth 100000 in
theorem c_X2_together {l : Launch} {L : List Nat} {h h' : mh_H} {r : Int64} {o0 : Nat} {x1 : Int32} {x2 : Int32} (hX : f_X2_together_e o0 x1 x2 h = some (r, h')) : mh_MJ l yX2_together (Cond.code yX2_together cX2_together 8 (some .long) :: mh_TB) (mh_rm 6) [.ref o0, .int x1, .int x2] L h r h' :=
  mh_of (mc := 0) (ms := 0) (Qc := fun D ks sz => mh_Ql D ks L sz r h') (plainFor_of_name (by decide)) (Nat.le_of_ble_eq_true rfl) (fun p e s m below meth c D ks ls hr cx wd hl => by
    have hl : lv_has ls 8 [(0, .ref o0), (1, .int x1), (2, .int x2)] := hl
    exact w_X2_together_e cx hr o0 x1 x2 h _ _ ls wd hl hX)
def f_X3_mint_e (o0 : Nat) (x1 : Int32) (h : mh_H) : Option (Nat × mh_H) :=
  (mh_gR h o0 3 0).bind fun a1 =>
  (mh_gI h o0 3 2).bind fun v2 =>
  (mh_aR h a1 3 ((v2 * (8 : Int32)) + x1)).bind fun a3 =>
  some (a3, h)
set_option maxRecDepth 100000 in
set_option maxHeartbeats 4000000 in
theorem w_X3_mint_e {p : Program} {l : Launch} {e : Env} {s : State} {m : MethodId} {args : Array Value} {below : List Frame} {meth : Method} {c : Code} {D : va_G} {ks : Nat → ClassId} {L : List Nat} {r : Nat} {h' : mh_H} (cx : mh_C p m c cX3_mint 2 s args RX3 meth D ks (mh_A L s.heap.size)) (hr : meth.sig.returnType = (some (.object "MintHouse$Coins"))) :
    ∀ (o0 : Nat) (x1 : Int32) (h : mh_H) (H : Heap) (locs : List Loc) (ls : Array Slot), mh_W D ks L (mh_A L s.heap.size) s.heap h H locs → lv_has ls 2 [(0, .ref o0), (1, .int x1)] → f_X3_mint_e o0 x1 h = some (r, h') → W p l e (mh_rm 0) s m args below meth c H locs 0 0 (MQ below (mh_Qr D ks L s.heap.size r h') args s 0 0 (mh_A L s.heap.size)) (F0 m 0 ls []) := by
  intro o0 x1 h H locs ls wd hl hX
  have hx := cx.1.1
  have hb := cx.1.2.1
  unfold f_X3_mint_e at hX
  refine lv_aload_n hx hb dX3_mint_0 rfl (lv_at hl 0 rfl) ?_
  refine mh_getR cx wd fl_X3_13 dX3_mint_1 hX (fun a1 hX => ?_)
  refine lv_aload_n hx hb dX3_mint_4 rfl (lv_at hl 0 rfl) ?_
  refine mh_getI cx wd fl_X3_23 dX3_mint_5 hX (fun v2 hX => ?_)
  refine lv_bipush (v := 8) hx hb dX3_mint_8 (by decide) ?_
  refine lv_imul hx hb dX3_mint_10 ?_
  refine lv_iload_n hx hb dX3_mint_11 rfl (lv_at hl 1 rfl) ?_
  refine lv_iadd hx hb dX3_mint_12 ?_
  refine mh_aald cx wd 3 rfl rfl dX3_mint_13 hX (fun a3 hX => ?_)
  exact mh_aret cx wd hr (Or.inl ⟨_, rfl⟩) hX dX3_mint_14
set_option maxRecDepth 100000 in
theorem c_X3_mint {l : Launch} {L : List Nat} {h h' : mh_H} {r : Nat} {o0 : Nat} {x1 : Int32} (hX : f_X3_mint_e o0 x1 h = some (r, h')) : mh_MR l yX3_mint (Cond.code yX3_mint cX3_mint 2 (some (.object "MintHouse$Coins")) :: mh_TB) (mh_rm 0) [.ref o0, .int x1] L h r h' :=
  mh_of (mc := 0) (ms := 0) (Qc := fun D ks sz => mh_Qr D ks L sz r h') (plainFor_of_name (by decide)) (Nat.le_of_ble_eq_true rfl) (fun p e s m below meth c D ks ls hr cx wd hl => by
    have hl : lv_has ls 2 [(0, .ref o0), (1, .int x1)] := hl
    exact w_X3_mint_e cx hr o0 x1 h _ _ ls wd hl hX)
