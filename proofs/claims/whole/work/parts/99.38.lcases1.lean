def f_L_k19 (xs : Nat → Int32) (N o1 o2 o3 : Nat) (x4 : Int32) (h : mh_H) : Option mh_H :=
  (mh_sc xs N (x4 + (1 : Int32))).bind fun v1 =>
  (mh_sc xs N (x4 + (2 : Int32))).bind fun v2 =>
  (mh_sc xs N (x4 + (3 : Int32))).bind fun v3 =>
  mh_b2 (f_L_part_e o1 v1 v2 v3 o3 h) fun v5 h4 =>
  (mh_sc xs N (x4 + (1 : Int32))).bind fun v6 =>
  (mh_sc xs N (x4 + (2 : Int32))).bind fun v7 =>
  (mh_sc xs N (x4 + (3 : Int32))).bind fun v8 =>
  mh_b2 (mh_cal h4 o2 12 (f_X12_part_e o2 v6 v7 v8 h4)) fun v10 h9 =>
  mh_b2 (mh_cal h9 o2 12 (f_X12_thrown_e o2 h9)) fun v12 h11 =>
  if v12 = v5 then (
  if v5 = 0 then (
  (mh_aJ h11 o3 (0 : Int32)).bind fun w13 =>
  if (lg_cmp w13 ((v10).toInt64)) = 0 then (
  some h11) else
  none) else
  some h11) else
  none
set_option maxRecDepth 100000 in
set_option maxHeartbeats 4000000 in
theorem w_L_k19 {p : Program} {l : Launch} {e : Env} {s : State} {m : MethodId} {args : Array Value} {below : List Frame} {meth : Method} {c : Code} {D : va_G} {ks : Nat → ClassId} {L : List Nat} {A : Nat → Prop} {b N : Nat} {xs : Nat → Int32} {o1 o2 o3 : Nat} {x4 : Int32} {h h' : mh_H} {H : Heap} {locs : List Loc} {ls : Array Slot} {cells slots : Nat} {Q : State → Prop} (cx : mh_C p m c cL_law 8 s args RL meth D ks A) (th : mh_Th l A s) (nc : mh_Nc s) (hS : va_X b N xs s s.heap ∧ b < s.heap.size ∧ ¬ A b) (hc : cells + 3 ≤ room_1.cells ∧ slots + 18 ≤ room_1.slots) (wd : mh_W D ks L A s.heap h H locs) (hl : lv_has ls 8 [(0, .ref b), (1, .ref o1), (2, .ref o2), (3, .ref o3), (4, .int x4)]) (hX : f_L_k19 xs N o1 o2 o3 x4 h = some h')
    (kk : ∀ H locs ls, mh_W D ks L A s.heap h' H locs → lv_has ls 8 [(0, .ref b), (1, .ref o1), (2, .ref o2), (3, .ref o3), (4, .int x4)] → W p l e room_1 s m args below meth c H locs (cells + 3) (slots + 18) Q (F0 m 2678 ls [])) : W p l e room_1 s m args below meth c H locs cells slots Q (F0 m 1377 ls []) := by
  have hx := cx.1.1
  have hb := cx.1.2.1
  unfold f_L_k19 at hX
  refine lv_aload_n hx hb dL_law_1377 rfl (lv_at hl 1 rfl) ?_
  refine lv_aload_n hx hb dL_law_1378 rfl (lv_at hl 0 rfl) ?_
  refine lv_iload hx hb dL_law_1379 (lv_at hl 4 rfl) ?_
  refine lv_iconst (v := 1) hx hb dL_law_1381 (by decide) ?_
  refine lv_iadd hx hb dL_law_1382 ?_
  refine mh_scl cx wd hS dL_law_1383 hX (fun v1 hX => ?_)
  refine lv_aload_n hx hb dL_law_1384 rfl (lv_at hl 0 rfl) ?_
  refine lv_iload hx hb dL_law_1385 (lv_at hl 4 rfl) ?_
  refine lv_iconst (v := 2) hx hb dL_law_1387 (by decide) ?_
  refine lv_iadd hx hb dL_law_1388 ?_
  refine mh_scl cx wd hS dL_law_1389 hX (fun v2 hX => ?_)
  refine lv_aload_n hx hb dL_law_1390 rfl (lv_at hl 0 rfl) ?_
  refine lv_iload hx hb dL_law_1391 (lv_at hl 4 rfl) ?_
  refine lv_iconst (v := 3) hx hb dL_law_1393 (by decide) ?_
  refine lv_iadd hx hb dL_law_1394 ?_
  refine mh_scl cx wd hS dL_law_1395 hX (fun v3 hX => ?_)
  refine lv_aload_n hx hb dL_law_1396 rfl (lv_at hl 3 rfl) ?_
  refine mh_wS cx th nc wd (K := 3) [.ref o1, .int v1, .int v2, .int v3, .ref o3] yx_L_part sw_L_204 rfl hl.1 rfl (Nat.le_of_ble_eq_true rfl) dL_law_1397 ⟨Nat.le_of_ble_eq_true rfl, Nat.le_of_ble_eq_true rfl⟩ (mh_rq hc (k := 3) (j := 18) (Nat.le_of_ble_eq_true rfl) (Nat.le_of_ble_eq_true rfl)) (fun _ _ q => c_L_part q) hX (fun v5 h4 H locs wd hX => ?_)
  refine lv_istore (lv' := [(5, .int v5), (0, .ref b), (1, .ref o1), (2, .ref o2), (3, .ref o3), (4, .int x4)]) hx hb dL_law_1400 hl (Nat.le_of_ble_eq_true rfl) rfl (fun ls hl => ?_)
  refine lv_aload_n hx hb dL_law_1402 rfl (lv_at hl 3 rfl) ?_
  refine lv_aload_n hx hb dL_law_1403 rfl (lv_at hl 1 rfl) ?_
  refine lv_iload hx hb dL_law_1404 (lv_at hl 5 rfl) ?_
  refine lv_iconst (v := 1) hx hb dL_law_1406 (by decide) ?_
  refine lv_iadd hx hb dL_law_1407 ?_
  refine mh_scl cx wd hS dL_law_1408 hX (fun v6 hX => ?_)
  refine lv_aload_n hx hb dL_law_1409 rfl (lv_at hl 1 rfl) ?_
  refine lv_iload hx hb dL_law_1410 (lv_at hl 5 rfl) ?_
  refine lv_iconst (v := 2) hx hb dL_law_1412 (by decide) ?_
  refine lv_iadd hx hb dL_law_1413 ?_
  refine mh_scl cx wd hS dL_law_1414 hX (fun v7 hX => ?_)
  refine lv_aload_n hx hb dL_law_1415 rfl (lv_at hl 1 rfl) ?_
  refine lv_iload hx hb dL_law_1416 (lv_at hl 5 rfl) ?_
  refine lv_iconst (v := 3) hx hb dL_law_1418 (by decide) ?_
  refine lv_iadd hx hb dL_law_1419 ?_
  refine mh_scl cx wd hS dL_law_1420 hX (fun v8 hX => ?_)
  refine mh_callVI cx wd [.int v6, .int v7, .int v8] (rfl : vwCl[12]? = some (RX12, TX12, 38)) yw_X12_part vw_L_206 rfl hl.1 rfl (Nat.le_of_ble_eq_true rfl) dL_law_1421 ⟨Nat.le_of_ble_eq_true rfl, Nat.le_of_ble_eq_true rfl⟩ (mh_rq hc (k := 3) (j := 18) (Nat.le_of_ble_eq_true rfl) (Nat.le_of_ble_eq_true rfl)) (fun _ _ q => c_X12_part q) hX (fun v10 h9 H locs wd hX => ?_)
  refine lv_istore (lv' := [(6, .int v10), (5, .int v5), (0, .ref b), (1, .ref o1), (2, .ref o2), (3, .ref o3), (4, .int x4)]) hx hb dL_law_1424 hl (Nat.le_of_ble_eq_true rfl) rfl (fun ls hl => ?_)
  refine lv_aload_n hx hb dL_law_1426 rfl (lv_at hl 4 rfl) ?_
  refine mh_callVI cx wd [] (rfl : vwCl[12]? = some (RX12, TX12, 38)) yw_X12_thrown vw_L_143 rfl hl.1 rfl (Nat.le_of_ble_eq_true rfl) dL_law_1427 ⟨Nat.le_of_ble_eq_true rfl, Nat.le_of_ble_eq_true rfl⟩ (mh_rq hc (k := 3) (j := 18) (Nat.le_of_ble_eq_true rfl) (Nat.le_of_ble_eq_true rfl)) (fun _ _ q => c_X12_thrown q) hX (fun v12 h11 H locs wd hX => ?_)
  refine lv_iload hx hb dL_law_1430 (lv_at hl 1 rfl) ?_
  refine lv_icmp_eq (tgt := 1437) hx hb dL_law_1432 rfl (fun hc => (fun hX => ?_) ((mh_if hX).1 hc)) (fun hc => (fun hX => ?_) ((mh_if hX).2 hc))
  · refine lv_iload hx hb dL_law_1437 (lv_at hl 1 rfl) ?_
    refine lv_if_ne (tgt := 1454) hx hb dL_law_1439 rfl (fun hc => (fun hX => ?_) ((mh_if hX).2 hc)) (fun hc => (fun hX => ?_) ((mh_if hX).1 hc))
    · refine lv_goto (tgt := 2678) hx hb dL_law_1454 rfl ?_
      cases hX
      refine W.widen (k := cells + 3) (n := slots + 18) (by omega) (by omega) ?_
      exact kk _ _ _ wd (lv_sub hl [2, 3, 4, 5, 6] rfl)
    · refine lv_aload_n hx hb dL_law_1442 rfl (lv_at hl 5 rfl) ?_
      refine lv_iconst (v := 0) hx hb dL_law_1443 (by decide) ?_
      refine mh_lald cx wd dL_law_1444 hX (fun w13 hX => ?_)
      refine lv_iload hx hb dL_law_1445 (lv_at hl 0 rfl) ?_
      refine lv_i2l hx hb dL_law_1447 rfl ?_
      refine W.lcmp hx hb dL_law_1448 ?_
      refine lv_if_eq (tgt := 1454) hx hb dL_law_1449 rfl (fun hc => (fun hX => ?_) ((mh_if hX).1 hc)) (fun hc => (fun hX => ?_) ((mh_if hX).2 hc))
      · refine lv_goto (tgt := 2678) hx hb dL_law_1454 rfl ?_
        cases hX
        refine W.widen (k := cells + 3) (n := slots + 18) (by omega) (by omega) ?_
        exact kk _ _ _ wd (lv_sub hl [2, 3, 4, 5, 6] rfl)
      · refine lv_iconst (v := 0) hx hb dL_law_1452 (by decide) ?_
        cases hX
  · refine lv_iconst (v := 0) hx hb dL_law_1435 (by decide) ?_
    cases hX
def f_L_k20 (xs : Nat → Int32) (N o1 o2 o3 : Nat) (x4 : Int32) (h : mh_H) : Option mh_H :=
  (mh_sc xs N (x4 + (1 : Int32))).bind fun v1 =>
  (mh_sc xs N (x4 + (2 : Int32))).bind fun v2 =>
  (mh_sc xs N (x4 + (3 : Int32))).bind fun v3 =>
  mh_b2 (f_L_factor_e o1 v1 v2 v3 o3 h) fun v5 h4 =>
  (mh_sc xs N (x4 + (1 : Int32))).bind fun v6 =>
  (mh_sc xs N (x4 + (2 : Int32))).bind fun v7 =>
  (mh_sc xs N (x4 + (3 : Int32))).bind fun v8 =>
  mh_b2 (mh_cal h4 o2 12 (f_X12_factor_e o2 v6 v7 v8 h4)) fun v10 h9 =>
  mh_b2 (mh_cal h9 o2 12 (f_X12_thrown_e o2 h9)) fun v12 h11 =>
  if v12 = v5 then (
  if v5 = 0 then (
  (mh_aJ h11 o3 (0 : Int32)).bind fun w13 =>
  if (lg_cmp w13 ((v10).toInt64)) = 0 then (
  some h11) else
  none) else
  some h11) else
  none
set_option maxRecDepth 100000 in
set_option maxHeartbeats 4000000 in
theorem w_L_k20 {p : Program} {l : Launch} {e : Env} {s : State} {m : MethodId} {args : Array Value} {below : List Frame} {meth : Method} {c : Code} {D : va_G} {ks : Nat → ClassId} {L : List Nat} {A : Nat → Prop} {b N : Nat} {xs : Nat → Int32} {o1 o2 o3 : Nat} {x4 : Int32} {h h' : mh_H} {H : Heap} {locs : List Loc} {ls : Array Slot} {cells slots : Nat} {Q : State → Prop} (cx : mh_C p m c cL_law 8 s args RL meth D ks A) (th : mh_Th l A s) (nc : mh_Nc s) (hS : va_X b N xs s s.heap ∧ b < s.heap.size ∧ ¬ A b) (hc : cells + 3 ≤ room_1.cells ∧ slots + 18 ≤ room_1.slots) (wd : mh_W D ks L A s.heap h H locs) (hl : lv_has ls 8 [(0, .ref b), (1, .ref o1), (2, .ref o2), (3, .ref o3), (4, .int x4)]) (hX : f_L_k20 xs N o1 o2 o3 x4 h = some h')
    (kk : ∀ H locs ls, mh_W D ks L A s.heap h' H locs → lv_has ls 8 [(0, .ref b), (1, .ref o1), (2, .ref o2), (3, .ref o3), (4, .int x4)] → W p l e room_1 s m args below meth c H locs (cells + 3) (slots + 18) Q (F0 m 2678 ls [])) : W p l e room_1 s m args below meth c H locs cells slots Q (F0 m 1457 ls []) := by
  have hx := cx.1.1
  have hb := cx.1.2.1
  unfold f_L_k20 at hX
  refine lv_aload_n hx hb dL_law_1457 rfl (lv_at hl 1 rfl) ?_
  refine lv_aload_n hx hb dL_law_1458 rfl (lv_at hl 0 rfl) ?_
  refine lv_iload hx hb dL_law_1459 (lv_at hl 4 rfl) ?_
  refine lv_iconst (v := 1) hx hb dL_law_1461 (by decide) ?_
  refine lv_iadd hx hb dL_law_1462 ?_
  refine mh_scl cx wd hS dL_law_1463 hX (fun v1 hX => ?_)
  refine lv_aload_n hx hb dL_law_1464 rfl (lv_at hl 0 rfl) ?_
  refine lv_iload hx hb dL_law_1465 (lv_at hl 4 rfl) ?_
  refine lv_iconst (v := 2) hx hb dL_law_1467 (by decide) ?_
  refine lv_iadd hx hb dL_law_1468 ?_
  refine mh_scl cx wd hS dL_law_1469 hX (fun v2 hX => ?_)
  refine lv_aload_n hx hb dL_law_1470 rfl (lv_at hl 0 rfl) ?_
  refine lv_iload hx hb dL_law_1471 (lv_at hl 4 rfl) ?_
  refine lv_iconst (v := 3) hx hb dL_law_1473 (by decide) ?_
  refine lv_iadd hx hb dL_law_1474 ?_
  refine mh_scl cx wd hS dL_law_1475 hX (fun v3 hX => ?_)
  refine lv_aload_n hx hb dL_law_1476 rfl (lv_at hl 3 rfl) ?_
  refine mh_wS cx th nc wd (K := 3) [.ref o1, .int v1, .int v2, .int v3, .ref o3] yx_L_factor sw_L_207 rfl hl.1 rfl (Nat.le_of_ble_eq_true rfl) dL_law_1477 ⟨Nat.le_of_ble_eq_true rfl, Nat.le_of_ble_eq_true rfl⟩ (mh_rq hc (k := 3) (j := 18) (Nat.le_of_ble_eq_true rfl) (Nat.le_of_ble_eq_true rfl)) (fun _ _ q => c_L_factor q) hX (fun v5 h4 H locs wd hX => ?_)
  refine lv_istore (lv' := [(5, .int v5), (0, .ref b), (1, .ref o1), (2, .ref o2), (3, .ref o3), (4, .int x4)]) hx hb dL_law_1480 hl (Nat.le_of_ble_eq_true rfl) rfl (fun ls hl => ?_)
  refine lv_aload_n hx hb dL_law_1482 rfl (lv_at hl 3 rfl) ?_
  refine lv_aload_n hx hb dL_law_1483 rfl (lv_at hl 1 rfl) ?_
  refine lv_iload hx hb dL_law_1484 (lv_at hl 5 rfl) ?_
  refine lv_iconst (v := 1) hx hb dL_law_1486 (by decide) ?_
  refine lv_iadd hx hb dL_law_1487 ?_
  refine mh_scl cx wd hS dL_law_1488 hX (fun v6 hX => ?_)
  refine lv_aload_n hx hb dL_law_1489 rfl (lv_at hl 1 rfl) ?_
  refine lv_iload hx hb dL_law_1490 (lv_at hl 5 rfl) ?_
  refine lv_iconst (v := 2) hx hb dL_law_1492 (by decide) ?_
  refine lv_iadd hx hb dL_law_1493 ?_
  refine mh_scl cx wd hS dL_law_1494 hX (fun v7 hX => ?_)
  refine lv_aload_n hx hb dL_law_1495 rfl (lv_at hl 1 rfl) ?_
  refine lv_iload hx hb dL_law_1496 (lv_at hl 5 rfl) ?_
  refine lv_iconst (v := 3) hx hb dL_law_1498 (by decide) ?_
  refine lv_iadd hx hb dL_law_1499 ?_
  refine mh_scl cx wd hS dL_law_1500 hX (fun v8 hX => ?_)
  refine mh_callVI cx wd [.int v6, .int v7, .int v8] (rfl : vwCl[12]? = some (RX12, TX12, 38)) yw_X12_factor vw_L_209 rfl hl.1 rfl (Nat.le_of_ble_eq_true rfl) dL_law_1501 ⟨Nat.le_of_ble_eq_true rfl, Nat.le_of_ble_eq_true rfl⟩ (mh_rq hc (k := 3) (j := 18) (Nat.le_of_ble_eq_true rfl) (Nat.le_of_ble_eq_true rfl)) (fun _ _ q => c_X12_factor q) hX (fun v10 h9 H locs wd hX => ?_)
  refine lv_istore (lv' := [(6, .int v10), (5, .int v5), (0, .ref b), (1, .ref o1), (2, .ref o2), (3, .ref o3), (4, .int x4)]) hx hb dL_law_1504 hl (Nat.le_of_ble_eq_true rfl) rfl (fun ls hl => ?_)
  refine lv_aload_n hx hb dL_law_1506 rfl (lv_at hl 4 rfl) ?_
  refine mh_callVI cx wd [] (rfl : vwCl[12]? = some (RX12, TX12, 38)) yw_X12_thrown vw_L_143 rfl hl.1 rfl (Nat.le_of_ble_eq_true rfl) dL_law_1507 ⟨Nat.le_of_ble_eq_true rfl, Nat.le_of_ble_eq_true rfl⟩ (mh_rq hc (k := 3) (j := 18) (Nat.le_of_ble_eq_true rfl) (Nat.le_of_ble_eq_true rfl)) (fun _ _ q => c_X12_thrown q) hX (fun v12 h11 H locs wd hX => ?_)
  refine lv_iload hx hb dL_law_1510 (lv_at hl 1 rfl) ?_
  refine lv_icmp_eq (tgt := 1517) hx hb dL_law_1512 rfl (fun hc => (fun hX => ?_) ((mh_if hX).1 hc)) (fun hc => (fun hX => ?_) ((mh_if hX).2 hc))
  · refine lv_iload hx hb dL_law_1517 (lv_at hl 1 rfl) ?_
    refine lv_if_ne (tgt := 1534) hx hb dL_law_1519 rfl (fun hc => (fun hX => ?_) ((mh_if hX).2 hc)) (fun hc => (fun hX => ?_) ((mh_if hX).1 hc))
    · refine lv_goto (tgt := 2678) hx hb dL_law_1534 rfl ?_
      cases hX
      refine W.widen (k := cells + 3) (n := slots + 18) (by omega) (by omega) ?_
      exact kk _ _ _ wd (lv_sub hl [2, 3, 4, 5, 6] rfl)
    · refine lv_aload_n hx hb dL_law_1522 rfl (lv_at hl 5 rfl) ?_
      refine lv_iconst (v := 0) hx hb dL_law_1523 (by decide) ?_
      refine mh_lald cx wd dL_law_1524 hX (fun w13 hX => ?_)
      refine lv_iload hx hb dL_law_1525 (lv_at hl 0 rfl) ?_
      refine lv_i2l hx hb dL_law_1527 rfl ?_
      refine W.lcmp hx hb dL_law_1528 ?_
      refine lv_if_eq (tgt := 1534) hx hb dL_law_1529 rfl (fun hc => (fun hX => ?_) ((mh_if hX).1 hc)) (fun hc => (fun hX => ?_) ((mh_if hX).2 hc))
      · refine lv_goto (tgt := 2678) hx hb dL_law_1534 rfl ?_
        cases hX
        refine W.widen (k := cells + 3) (n := slots + 18) (by omega) (by omega) ?_
        exact kk _ _ _ wd (lv_sub hl [2, 3, 4, 5, 6] rfl)
      · refine lv_iconst (v := 0) hx hb dL_law_1532 (by decide) ?_
        cases hX
  · refine lv_iconst (v := 0) hx hb dL_law_1515 (by decide) ?_
    cases hX
def f_L_k21 (xs : Nat → Int32) (N o1 o2 o3 : Nat) (x4 : Int32) (h : mh_H) : Option mh_H :=
  (mh_sc xs N (x4 + (1 : Int32))).bind fun v1 =>
  (mh_sc xs N (x4 + (2 : Int32))).bind fun v2 =>
  mh_b2 (f_L_ways_e o1 v1 v2 o3 h) fun v4 h3 =>
  (mh_sc xs N (x4 + (1 : Int32))).bind fun v5 =>
  (mh_sc xs N (x4 + (2 : Int32))).bind fun v6 =>
  mh_b2 (mh_cal h3 o2 12 (f_X12_ways_e o2 v5 v6 h3)) fun w8 h7 =>
  mh_b2 (mh_cal h7 o2 12 (f_X12_thrown_e o2 h7)) fun v10 h9 =>
  if v10 = v4 then (
  if v4 = 0 then (
  (mh_aJ h9 o3 (0 : Int32)).bind fun w11 =>
  if (lg_cmp w11 w8) = 0 then (
  some h9) else
  none) else
  some h9) else
  none
set_option maxRecDepth 100000 in
set_option maxHeartbeats 4000000 in
theorem w_L_k21 {p : Program} {l : Launch} {e : Env} {s : State} {m : MethodId} {args : Array Value} {below : List Frame} {meth : Method} {c : Code} {D : va_G} {ks : Nat → ClassId} {L : List Nat} {A : Nat → Prop} {b N : Nat} {xs : Nat → Int32} {o1 o2 o3 : Nat} {x4 : Int32} {h h' : mh_H} {H : Heap} {locs : List Loc} {ls : Array Slot} {cells slots : Nat} {Q : State → Prop} (cx : mh_C p m c cL_law 8 s args RL meth D ks A) (th : mh_Th l A s) (nc : mh_Nc s) (hS : va_X b N xs s s.heap ∧ b < s.heap.size ∧ ¬ A b) (hc : cells + 3 ≤ room_1.cells ∧ slots + 18 ≤ room_1.slots) (wd : mh_W D ks L A s.heap h H locs) (hl : lv_has ls 8 [(0, .ref b), (1, .ref o1), (2, .ref o2), (3, .ref o3), (4, .int x4)]) (hX : f_L_k21 xs N o1 o2 o3 x4 h = some h')
    (kk : ∀ H locs ls, mh_W D ks L A s.heap h' H locs → lv_has ls 8 [(0, .ref b), (1, .ref o1), (2, .ref o2), (3, .ref o3), (4, .int x4)] → W p l e room_1 s m args below meth c H locs (cells + 3) (slots + 18) Q (F0 m 2678 ls [])) : W p l e room_1 s m args below meth c H locs cells slots Q (F0 m 1537 ls []) := by
  have hx := cx.1.1
  have hb := cx.1.2.1
  unfold f_L_k21 at hX
  refine lv_aload_n hx hb dL_law_1537 rfl (lv_at hl 1 rfl) ?_
  refine lv_aload_n hx hb dL_law_1538 rfl (lv_at hl 0 rfl) ?_
  refine lv_iload hx hb dL_law_1539 (lv_at hl 4 rfl) ?_
  refine lv_iconst (v := 1) hx hb dL_law_1541 (by decide) ?_
  refine lv_iadd hx hb dL_law_1542 ?_
  refine mh_scl cx wd hS dL_law_1543 hX (fun v1 hX => ?_)
  refine lv_aload_n hx hb dL_law_1544 rfl (lv_at hl 0 rfl) ?_
  refine lv_iload hx hb dL_law_1545 (lv_at hl 4 rfl) ?_
  refine lv_iconst (v := 2) hx hb dL_law_1547 (by decide) ?_
  refine lv_iadd hx hb dL_law_1548 ?_
  refine mh_scl cx wd hS dL_law_1549 hX (fun v2 hX => ?_)
  refine lv_aload_n hx hb dL_law_1550 rfl (lv_at hl 3 rfl) ?_
  refine mh_wS cx th nc wd (K := 2) [.ref o1, .int v1, .int v2, .ref o3] yx_L_ways sw_L_210 rfl hl.1 rfl (Nat.le_of_ble_eq_true rfl) dL_law_1551 ⟨Nat.le_of_ble_eq_true rfl, Nat.le_of_ble_eq_true rfl⟩ (mh_rq hc (k := 2) (j := 12) (Nat.le_of_ble_eq_true rfl) (Nat.le_of_ble_eq_true rfl)) (fun _ _ q => c_L_ways q) hX (fun v4 h3 H locs wd hX => ?_)
  refine lv_istore (lv' := [(5, .int v4), (0, .ref b), (1, .ref o1), (2, .ref o2), (3, .ref o3), (4, .int x4)]) hx hb dL_law_1554 hl (Nat.le_of_ble_eq_true rfl) rfl (fun ls hl => ?_)
  refine lv_aload_n hx hb dL_law_1556 rfl (lv_at hl 3 rfl) ?_
  refine lv_aload_n hx hb dL_law_1557 rfl (lv_at hl 1 rfl) ?_
  refine lv_iload hx hb dL_law_1558 (lv_at hl 5 rfl) ?_
  refine lv_iconst (v := 1) hx hb dL_law_1560 (by decide) ?_
  refine lv_iadd hx hb dL_law_1561 ?_
  refine mh_scl cx wd hS dL_law_1562 hX (fun v5 hX => ?_)
  refine lv_aload_n hx hb dL_law_1563 rfl (lv_at hl 1 rfl) ?_
  refine lv_iload hx hb dL_law_1564 (lv_at hl 5 rfl) ?_
  refine lv_iconst (v := 2) hx hb dL_law_1566 (by decide) ?_
  refine lv_iadd hx hb dL_law_1567 ?_
  refine mh_scl cx wd hS dL_law_1568 hX (fun v6 hX => ?_)
  refine mh_callVJ cx wd [.int v5, .int v6] (rfl : vwCl[12]? = some (RX12, TX12, 38)) yw_X12_ways vw_L_212 rfl hl.1 rfl (Nat.le_of_ble_eq_true rfl) dL_law_1569 ⟨Nat.le_of_ble_eq_true rfl, Nat.le_of_ble_eq_true rfl⟩ (mh_rq hc (k := 2) (j := 12) (Nat.le_of_ble_eq_true rfl) (Nat.le_of_ble_eq_true rfl)) (fun _ _ q => c_X12_ways q) hX (fun w8 h7 H locs wd hX => ?_)
  refine lv_lstore (lv' := [(6, .long w8), (5, .int v4), (0, .ref b), (1, .ref o1), (2, .ref o2), (3, .ref o3), (4, .int x4)]) hx hb dL_law_1572 hl (Nat.le_of_ble_eq_true rfl) rfl (fun ls hl => ?_)
  refine lv_aload_n hx hb dL_law_1574 rfl (lv_at hl 4 rfl) ?_
  refine mh_callVI cx wd [] (rfl : vwCl[12]? = some (RX12, TX12, 38)) yw_X12_thrown vw_L_143 rfl hl.1 rfl (Nat.le_of_ble_eq_true rfl) dL_law_1575 ⟨Nat.le_of_ble_eq_true rfl, Nat.le_of_ble_eq_true rfl⟩ (mh_rq hc (k := 2) (j := 12) (Nat.le_of_ble_eq_true rfl) (Nat.le_of_ble_eq_true rfl)) (fun _ _ q => c_X12_thrown q) hX (fun v10 h9 H locs wd hX => ?_)
  refine lv_iload hx hb dL_law_1578 (lv_at hl 1 rfl) ?_
  refine lv_icmp_eq (tgt := 1585) hx hb dL_law_1580 rfl (fun hc => (fun hX => ?_) ((mh_if hX).1 hc)) (fun hc => (fun hX => ?_) ((mh_if hX).2 hc))
  · refine lv_iload hx hb dL_law_1585 (lv_at hl 1 rfl) ?_
    refine lv_if_ne (tgt := 1601) hx hb dL_law_1587 rfl (fun hc => (fun hX => ?_) ((mh_if hX).2 hc)) (fun hc => (fun hX => ?_) ((mh_if hX).1 hc))
    · refine lv_goto (tgt := 2678) hx hb dL_law_1601 rfl ?_
      cases hX
      refine W.widen (k := cells + 3) (n := slots + 18) (by omega) (by omega) ?_
      exact kk _ _ _ wd (lv_sub hl [2, 3, 4, 5, 6] rfl)
    · refine lv_aload_n hx hb dL_law_1590 rfl (lv_at hl 5 rfl) ?_
      refine lv_iconst (v := 0) hx hb dL_law_1591 (by decide) ?_
      refine mh_lald cx wd dL_law_1592 hX (fun w11 hX => ?_)
      refine lv_lload hx hb dL_law_1593 (lv_at hl 0 rfl) ?_
      refine W.lcmp hx hb dL_law_1595 ?_
      refine lv_if_eq (tgt := 1601) hx hb dL_law_1596 rfl (fun hc => (fun hX => ?_) ((mh_if hX).1 hc)) (fun hc => (fun hX => ?_) ((mh_if hX).2 hc))
      · refine lv_goto (tgt := 2678) hx hb dL_law_1601 rfl ?_
        cases hX
        refine W.widen (k := cells + 3) (n := slots + 18) (by omega) (by omega) ?_
        exact kk _ _ _ wd (lv_sub hl [2, 3, 4, 5, 6] rfl)
      · refine lv_iconst (v := 0) hx hb dL_law_1599 (by decide) ?_
        cases hX
  · refine lv_iconst (v := 0) hx hb dL_law_1583 (by decide) ?_
    cases hX
def f_L_k22 (xs : Nat → Int32) (N o1 o2 o3 : Nat) (x4 : Int32) (h : mh_H) : Option mh_H :=
  (mh_sc xs N (x4 + (1 : Int32))).bind fun v1 =>
  (mh_sc xs N (x4 + (2 : Int32))).bind fun v2 =>
  (mh_sc xs N (x4 + (3 : Int32))).bind fun v3 =>
  (mh_sc xs N (x4 + (4 : Int32))).bind fun v4 =>
  mh_b2 (f_L_of_e o1 v1 v2 (((v3).toInt64 <<< (((32 : Int32)).toInt64 &&& 63)) ||| ((v4).toInt64 &&& (4294967295 : Int64))) o3 h) fun v6 h5 =>
  (mh_sc xs N (x4 + (1 : Int32))).bind fun v7 =>
  (mh_sc xs N (x4 + (2 : Int32))).bind fun v8 =>
  (mh_sc xs N (x4 + (3 : Int32))).bind fun v9 =>
  (mh_sc xs N (x4 + (4 : Int32))).bind fun v10 =>
  mh_b2 (mh_cal h5 o2 12 (f_X12_of_e o2 v7 v8 (((v9).toInt64 <<< (((32 : Int32)).toInt64 &&& 63)) ||| ((v10).toInt64 &&& (4294967295 : Int64))) h5)) fun v12 h11 =>
  mh_b2 (mh_cal h11 o2 12 (f_X12_thrown_e o2 h11)) fun v14 h13 =>
  if v14 = v6 then (
  if v6 = 0 then (
  (mh_aJ h13 o3 (0 : Int32)).bind fun w15 =>
  if v12 = 0 then (
  if (lg_cmp w15 (0 : Int64)) = 0 then (
  some h13) else
  none) else
  if (lg_cmp w15 (1 : Int64)) = 0 then (
  some h13) else
  none) else
  some h13) else
  none
set_option maxRecDepth 100000 in
set_option maxHeartbeats 4000000 in
theorem w_L_k22 {p : Program} {l : Launch} {e : Env} {s : State} {m : MethodId} {args : Array Value} {below : List Frame} {meth : Method} {c : Code} {D : va_G} {ks : Nat → ClassId} {L : List Nat} {A : Nat → Prop} {b N : Nat} {xs : Nat → Int32} {o1 o2 o3 : Nat} {x4 : Int32} {h h' : mh_H} {H : Heap} {locs : List Loc} {ls : Array Slot} {cells slots : Nat} {Q : State → Prop} (cx : mh_C p m c cL_law 8 s args RL meth D ks A) (th : mh_Th l A s) (nc : mh_Nc s) (hS : va_X b N xs s s.heap ∧ b < s.heap.size ∧ ¬ A b) (hc : cells + 3 ≤ room_1.cells ∧ slots + 18 ≤ room_1.slots) (wd : mh_W D ks L A s.heap h H locs) (hl : lv_has ls 8 [(0, .ref b), (1, .ref o1), (2, .ref o2), (3, .ref o3), (4, .int x4)]) (hX : f_L_k22 xs N o1 o2 o3 x4 h = some h')
    (kk : ∀ H locs ls, mh_W D ks L A s.heap h' H locs → lv_has ls 8 [(0, .ref b), (1, .ref o1), (2, .ref o2), (3, .ref o3), (4, .int x4)] → W p l e room_1 s m args below meth c H locs (cells + 3) (slots + 18) Q (F0 m 2678 ls [])) : W p l e room_1 s m args below meth c H locs cells slots Q (F0 m 1604 ls []) := by
  have hx := cx.1.1
  have hb := cx.1.2.1
  unfold f_L_k22 at hX
  refine lv_aload_n hx hb dL_law_1604 rfl (lv_at hl 1 rfl) ?_
  refine lv_aload_n hx hb dL_law_1605 rfl (lv_at hl 0 rfl) ?_
  refine lv_iload hx hb dL_law_1606 (lv_at hl 4 rfl) ?_
  refine lv_iconst (v := 1) hx hb dL_law_1608 (by decide) ?_
  refine lv_iadd hx hb dL_law_1609 ?_
  refine mh_scl cx wd hS dL_law_1610 hX (fun v1 hX => ?_)
  refine lv_aload_n hx hb dL_law_1611 rfl (lv_at hl 0 rfl) ?_
  refine lv_iload hx hb dL_law_1612 (lv_at hl 4 rfl) ?_
  refine lv_iconst (v := 2) hx hb dL_law_1614 (by decide) ?_
  refine lv_iadd hx hb dL_law_1615 ?_
  refine mh_scl cx wd hS dL_law_1616 hX (fun v2 hX => ?_)
  refine lv_aload_n hx hb dL_law_1617 rfl (lv_at hl 0 rfl) ?_
  refine lv_iload hx hb dL_law_1618 (lv_at hl 4 rfl) ?_
  refine lv_iconst (v := 3) hx hb dL_law_1620 (by decide) ?_
  refine lv_iadd hx hb dL_law_1621 ?_
  refine mh_scl cx wd hS dL_law_1622 hX (fun v3 hX => ?_)
  refine lv_i2l hx hb dL_law_1623 rfl ?_
  refine lv_bipush (v := 32) hx hb dL_law_1624 (by decide) ?_
  refine lv_lshl hx hb dL_law_1626 rfl ?_
  refine lv_aload_n hx hb dL_law_1627 rfl (lv_at hl 0 rfl) ?_
  refine lv_iload hx hb dL_law_1628 (lv_at hl 4 rfl) ?_
  refine lv_iconst (v := 4) hx hb dL_law_1630 (by decide) ?_
  refine lv_iadd hx hb dL_law_1631 ?_
  refine mh_scl cx wd hS dL_law_1632 hX (fun v4 hX => ?_)
  refine lv_i2l hx hb dL_law_1633 rfl ?_
  refine mh_ldc2 cx kl_L_156 dL_law_1634 ?_
  refine lv_land hx hb dL_law_1637 ?_
  refine lv_lor hx hb dL_law_1638 ?_
  refine lv_aload_n hx hb dL_law_1639 rfl (lv_at hl 3 rfl) ?_
  refine mh_wS cx th nc wd (K := 2) [.ref o1, .int v1, .int v2, .long (((v3).toInt64 <<< (((32 : Int32)).toInt64 &&& 63)) ||| ((v4).toInt64 &&& (4294967295 : Int64))), .ref o3] yx_L_of sw_L_213 rfl hl.1 rfl (Nat.le_of_ble_eq_true rfl) dL_law_1640 ⟨Nat.le_of_ble_eq_true rfl, Nat.le_of_ble_eq_true rfl⟩ (mh_rq hc (k := 2) (j := 12) (Nat.le_of_ble_eq_true rfl) (Nat.le_of_ble_eq_true rfl)) (fun _ _ q => c_L_of q) hX (fun v6 h5 H locs wd hX => ?_)
  refine lv_istore (lv' := [(5, .int v6), (0, .ref b), (1, .ref o1), (2, .ref o2), (3, .ref o3), (4, .int x4)]) hx hb dL_law_1643 hl (Nat.le_of_ble_eq_true rfl) rfl (fun ls hl => ?_)
  refine lv_aload_n hx hb dL_law_1645 rfl (lv_at hl 3 rfl) ?_
  refine lv_aload_n hx hb dL_law_1646 rfl (lv_at hl 1 rfl) ?_
  refine lv_iload hx hb dL_law_1647 (lv_at hl 5 rfl) ?_
  refine lv_iconst (v := 1) hx hb dL_law_1649 (by decide) ?_
  refine lv_iadd hx hb dL_law_1650 ?_
  refine mh_scl cx wd hS dL_law_1651 hX (fun v7 hX => ?_)
  refine lv_aload_n hx hb dL_law_1652 rfl (lv_at hl 1 rfl) ?_
  refine lv_iload hx hb dL_law_1653 (lv_at hl 5 rfl) ?_
  refine lv_iconst (v := 2) hx hb dL_law_1655 (by decide) ?_
  refine lv_iadd hx hb dL_law_1656 ?_
  refine mh_scl cx wd hS dL_law_1657 hX (fun v8 hX => ?_)
  refine lv_aload_n hx hb dL_law_1658 rfl (lv_at hl 1 rfl) ?_
  refine lv_iload hx hb dL_law_1659 (lv_at hl 5 rfl) ?_
  refine lv_iconst (v := 3) hx hb dL_law_1661 (by decide) ?_
  refine lv_iadd hx hb dL_law_1662 ?_
  refine mh_scl cx wd hS dL_law_1663 hX (fun v9 hX => ?_)
  refine lv_i2l hx hb dL_law_1664 rfl ?_
  refine lv_bipush (v := 32) hx hb dL_law_1665 (by decide) ?_
  refine lv_lshl hx hb dL_law_1667 rfl ?_
  refine lv_aload_n hx hb dL_law_1668 rfl (lv_at hl 1 rfl) ?_
  refine lv_iload hx hb dL_law_1669 (lv_at hl 5 rfl) ?_
  refine lv_iconst (v := 4) hx hb dL_law_1671 (by decide) ?_
  refine lv_iadd hx hb dL_law_1672 ?_
  refine mh_scl cx wd hS dL_law_1673 hX (fun v10 hX => ?_)
  refine lv_i2l hx hb dL_law_1674 rfl ?_
  refine mh_ldc2 cx kl_L_156 dL_law_1675 ?_
  refine lv_land hx hb dL_law_1678 ?_
  refine lv_lor hx hb dL_law_1679 ?_
  refine mh_callVI cx wd [.int v7, .int v8, .long (((v9).toInt64 <<< (((32 : Int32)).toInt64 &&& 63)) ||| ((v10).toInt64 &&& (4294967295 : Int64)))] (rfl : vwCl[12]? = some (RX12, TX12, 38)) yw_X12_of vw_L_216 rfl hl.1 rfl (Nat.le_of_ble_eq_true rfl) dL_law_1680 ⟨Nat.le_of_ble_eq_true rfl, Nat.le_of_ble_eq_true rfl⟩ (mh_rq hc (k := 2) (j := 12) (Nat.le_of_ble_eq_true rfl) (Nat.le_of_ble_eq_true rfl)) (fun _ _ q => c_X12_of q) hX (fun v12 h11 H locs wd hX => ?_)
  refine lv_istore (lv' := [(6, .int v12), (5, .int v6), (0, .ref b), (1, .ref o1), (2, .ref o2), (3, .ref o3), (4, .int x4)]) hx hb dL_law_1683 hl (Nat.le_of_ble_eq_true rfl) rfl (fun ls hl => ?_)
  refine lv_aload_n hx hb dL_law_1685 rfl (lv_at hl 4 rfl) ?_
  refine mh_callVI cx wd [] (rfl : vwCl[12]? = some (RX12, TX12, 38)) yw_X12_thrown vw_L_143 rfl hl.1 rfl (Nat.le_of_ble_eq_true rfl) dL_law_1686 ⟨Nat.le_of_ble_eq_true rfl, Nat.le_of_ble_eq_true rfl⟩ (mh_rq hc (k := 2) (j := 12) (Nat.le_of_ble_eq_true rfl) (Nat.le_of_ble_eq_true rfl)) (fun _ _ q => c_X12_thrown q) hX (fun v14 h13 H locs wd hX => ?_)
  refine lv_iload hx hb dL_law_1689 (lv_at hl 1 rfl) ?_
  refine lv_icmp_eq (tgt := 1696) hx hb dL_law_1691 rfl (fun hc => (fun hX => ?_) ((mh_if hX).1 hc)) (fun hc => (fun hX => ?_) ((mh_if hX).2 hc))
  · refine lv_iload hx hb dL_law_1696 (lv_at hl 1 rfl) ?_
    refine lv_if_ne (tgt := 1720) hx hb dL_law_1698 rfl (fun hc => (fun hX => ?_) ((mh_if hX).2 hc)) (fun hc => (fun hX => ?_) ((mh_if hX).1 hc))
    · refine lv_goto (tgt := 2678) hx hb dL_law_1720 rfl ?_
      cases hX
      refine W.widen (k := cells + 3) (n := slots + 18) (by omega) (by omega) ?_
      exact kk _ _ _ wd (lv_sub hl [2, 3, 4, 5, 6] rfl)
    · refine lv_aload_n hx hb dL_law_1701 rfl (lv_at hl 5 rfl) ?_
      refine lv_iconst (v := 0) hx hb dL_law_1702 (by decide) ?_
      refine mh_lald cx wd dL_law_1703 hX (fun w15 hX => ?_)
      refine lv_iload hx hb dL_law_1704 (lv_at hl 0 rfl) ?_
      refine lv_if_eq (tgt := 1713) hx hb dL_law_1706 rfl (fun hc => (fun hX => ?_) ((mh_if hX).1 hc)) (fun hc => (fun hX => ?_) ((mh_if hX).2 hc))
      · refine lv_lconst (v := 0) hx hb dL_law_1713 (by decide) ?_
        refine W.lcmp hx hb dL_law_1714 ?_
        refine lv_if_eq (tgt := 1720) hx hb dL_law_1715 rfl (fun hc => (fun hX => ?_) ((mh_if hX).1 hc)) (fun hc => (fun hX => ?_) ((mh_if hX).2 hc))
        · refine lv_goto (tgt := 2678) hx hb dL_law_1720 rfl ?_
          cases hX
          refine W.widen (k := cells + 3) (n := slots + 18) (by omega) (by omega) ?_
          exact kk _ _ _ wd (lv_sub hl [2, 3, 4, 5, 6] rfl)
        · refine lv_iconst (v := 0) hx hb dL_law_1718 (by decide) ?_
          cases hX
      · refine lv_lconst (v := 1) hx hb dL_law_1709 (by decide) ?_
        refine lv_goto (tgt := 1714) hx hb dL_law_1710 rfl ?_
        refine W.lcmp hx hb dL_law_1714 ?_
        refine lv_if_eq (tgt := 1720) hx hb dL_law_1715 rfl (fun hc => (fun hX => ?_) ((mh_if hX).1 hc)) (fun hc => (fun hX => ?_) ((mh_if hX).2 hc))
        · refine lv_goto (tgt := 2678) hx hb dL_law_1720 rfl ?_
          cases hX
          refine W.widen (k := cells + 3) (n := slots + 18) (by omega) (by omega) ?_
          exact kk _ _ _ wd (lv_sub hl [2, 3, 4, 5, 6] rfl)
        · refine lv_iconst (v := 0) hx hb dL_law_1718 (by decide) ?_
          cases hX
  · refine lv_iconst (v := 0) hx hb dL_law_1694 (by decide) ?_
    cases hX
def f_L_k23 (xs : Nat → Int32) (N o1 o2 o3 : Nat) (x4 : Int32) (h : mh_H) : Option mh_H :=
  (mh_sc xs N (x4 + (1 : Int32))).bind fun v1 =>
  mh_b2 (f_L_hand_e o1 v1 o3 h) fun v3 h2 =>
  (mh_sc xs N (x4 + (1 : Int32))).bind fun v4 =>
  mh_b2 (mh_cal h2 o2 12 (f_X12_hand_e o2 v4 h2)) fun v6 h5 =>
  mh_b2 (mh_cal h5 o2 12 (f_X12_thrown_e o2 h5)) fun v8 h7 =>
  if v8 = v3 then (
  if v3 = 0 then (
  (mh_aJ h7 o3 (0 : Int32)).bind fun w9 =>
  if (lg_cmp w9 ((v6).toInt64)) = 0 then (
  some h7) else
  none) else
  some h7) else
  none
set_option maxRecDepth 100000 in
set_option maxHeartbeats 4000000 in
theorem w_L_k23 {p : Program} {l : Launch} {e : Env} {s : State} {m : MethodId} {args : Array Value} {below : List Frame} {meth : Method} {c : Code} {D : va_G} {ks : Nat → ClassId} {L : List Nat} {A : Nat → Prop} {b N : Nat} {xs : Nat → Int32} {o1 o2 o3 : Nat} {x4 : Int32} {h h' : mh_H} {H : Heap} {locs : List Loc} {ls : Array Slot} {cells slots : Nat} {Q : State → Prop} (cx : mh_C p m c cL_law 8 s args RL meth D ks A) (th : mh_Th l A s) (nc : mh_Nc s) (hS : va_X b N xs s s.heap ∧ b < s.heap.size ∧ ¬ A b) (hc : cells + 3 ≤ room_1.cells ∧ slots + 18 ≤ room_1.slots) (wd : mh_W D ks L A s.heap h H locs) (hl : lv_has ls 8 [(0, .ref b), (1, .ref o1), (2, .ref o2), (3, .ref o3), (4, .int x4)]) (hX : f_L_k23 xs N o1 o2 o3 x4 h = some h')
    (kk : ∀ H locs ls, mh_W D ks L A s.heap h' H locs → lv_has ls 8 [(0, .ref b), (1, .ref o1), (2, .ref o2), (3, .ref o3), (4, .int x4)] → W p l e room_1 s m args below meth c H locs (cells + 3) (slots + 18) Q (F0 m 2678 ls [])) : W p l e room_1 s m args below meth c H locs cells slots Q (F0 m 1723 ls []) := by
  have hx := cx.1.1
  have hb := cx.1.2.1
  unfold f_L_k23 at hX
  refine lv_aload_n hx hb dL_law_1723 rfl (lv_at hl 1 rfl) ?_
  refine lv_aload_n hx hb dL_law_1724 rfl (lv_at hl 0 rfl) ?_
  refine lv_iload hx hb dL_law_1725 (lv_at hl 4 rfl) ?_
  refine lv_iconst (v := 1) hx hb dL_law_1727 (by decide) ?_
  refine lv_iadd hx hb dL_law_1728 ?_
  refine mh_scl cx wd hS dL_law_1729 hX (fun v1 hX => ?_)
  refine lv_aload_n hx hb dL_law_1730 rfl (lv_at hl 3 rfl) ?_
  refine mh_wS cx th nc wd (K := 1) [.ref o1, .int v1, .ref o3] yx_L_hand sw_L_217 rfl hl.1 rfl (Nat.le_of_ble_eq_true rfl) dL_law_1731 ⟨Nat.le_of_ble_eq_true rfl, Nat.le_of_ble_eq_true rfl⟩ (mh_rq hc (k := 1) (j := 6) (Nat.le_of_ble_eq_true rfl) (Nat.le_of_ble_eq_true rfl)) (fun _ _ q => c_L_hand q) hX (fun v3 h2 H locs wd hX => ?_)
  refine lv_istore (lv' := [(5, .int v3), (0, .ref b), (1, .ref o1), (2, .ref o2), (3, .ref o3), (4, .int x4)]) hx hb dL_law_1734 hl (Nat.le_of_ble_eq_true rfl) rfl (fun ls hl => ?_)
  refine lv_aload_n hx hb dL_law_1736 rfl (lv_at hl 3 rfl) ?_
  refine lv_aload_n hx hb dL_law_1737 rfl (lv_at hl 1 rfl) ?_
  refine lv_iload hx hb dL_law_1738 (lv_at hl 5 rfl) ?_
  refine lv_iconst (v := 1) hx hb dL_law_1740 (by decide) ?_
  refine lv_iadd hx hb dL_law_1741 ?_
  refine mh_scl cx wd hS dL_law_1742 hX (fun v4 hX => ?_)
  refine mh_callVI cx wd [.int v4] (rfl : vwCl[12]? = some (RX12, TX12, 38)) yw_X12_hand vw_L_219 rfl hl.1 rfl (Nat.le_of_ble_eq_true rfl) dL_law_1743 ⟨Nat.le_of_ble_eq_true rfl, Nat.le_of_ble_eq_true rfl⟩ (mh_rq hc (k := 1) (j := 6) (Nat.le_of_ble_eq_true rfl) (Nat.le_of_ble_eq_true rfl)) (fun _ _ q => c_X12_hand q) hX (fun v6 h5 H locs wd hX => ?_)
  refine lv_istore (lv' := [(6, .int v6), (5, .int v3), (0, .ref b), (1, .ref o1), (2, .ref o2), (3, .ref o3), (4, .int x4)]) hx hb dL_law_1746 hl (Nat.le_of_ble_eq_true rfl) rfl (fun ls hl => ?_)
  refine lv_aload_n hx hb dL_law_1748 rfl (lv_at hl 4 rfl) ?_
  refine mh_callVI cx wd [] (rfl : vwCl[12]? = some (RX12, TX12, 38)) yw_X12_thrown vw_L_143 rfl hl.1 rfl (Nat.le_of_ble_eq_true rfl) dL_law_1749 ⟨Nat.le_of_ble_eq_true rfl, Nat.le_of_ble_eq_true rfl⟩ (mh_rq hc (k := 1) (j := 6) (Nat.le_of_ble_eq_true rfl) (Nat.le_of_ble_eq_true rfl)) (fun _ _ q => c_X12_thrown q) hX (fun v8 h7 H locs wd hX => ?_)
  refine lv_iload hx hb dL_law_1752 (lv_at hl 1 rfl) ?_
  refine lv_icmp_eq (tgt := 1759) hx hb dL_law_1754 rfl (fun hc => (fun hX => ?_) ((mh_if hX).1 hc)) (fun hc => (fun hX => ?_) ((mh_if hX).2 hc))
  · refine lv_iload hx hb dL_law_1759 (lv_at hl 1 rfl) ?_
    refine lv_if_ne (tgt := 1776) hx hb dL_law_1761 rfl (fun hc => (fun hX => ?_) ((mh_if hX).2 hc)) (fun hc => (fun hX => ?_) ((mh_if hX).1 hc))
    · refine lv_goto (tgt := 2678) hx hb dL_law_1776 rfl ?_
      cases hX
      refine W.widen (k := cells + 3) (n := slots + 18) (by omega) (by omega) ?_
      exact kk _ _ _ wd (lv_sub hl [2, 3, 4, 5, 6] rfl)
    · refine lv_aload_n hx hb dL_law_1764 rfl (lv_at hl 5 rfl) ?_
      refine lv_iconst (v := 0) hx hb dL_law_1765 (by decide) ?_
      refine mh_lald cx wd dL_law_1766 hX (fun w9 hX => ?_)
      refine lv_iload hx hb dL_law_1767 (lv_at hl 0 rfl) ?_
      refine lv_i2l hx hb dL_law_1769 rfl ?_
      refine W.lcmp hx hb dL_law_1770 ?_
      refine lv_if_eq (tgt := 1776) hx hb dL_law_1771 rfl (fun hc => (fun hX => ?_) ((mh_if hX).1 hc)) (fun hc => (fun hX => ?_) ((mh_if hX).2 hc))
      · refine lv_goto (tgt := 2678) hx hb dL_law_1776 rfl ?_
        cases hX
        refine W.widen (k := cells + 3) (n := slots + 18) (by omega) (by omega) ?_
        exact kk _ _ _ wd (lv_sub hl [2, 3, 4, 5, 6] rfl)
      · refine lv_iconst (v := 0) hx hb dL_law_1774 (by decide) ?_
        cases hX
  · refine lv_iconst (v := 0) hx hb dL_law_1757 (by decide) ?_
    cases hX
def f_L_k24 (xs : Nat → Int32) (N o1 o2 o3 : Nat) (x4 : Int32) (h : mh_H) : Option mh_H :=
  (mh_sc xs N (x4 + (1 : Int32))).bind fun v1 =>
  (mh_sc xs N (x4 + (2 : Int32))).bind fun v2 =>
  mh_b2 (f_L_put_e o1 v1 v2 o3 h) fun v4 h3 =>
  (mh_sc xs N (x4 + (1 : Int32))).bind fun v5 =>
  (mh_sc xs N (x4 + (2 : Int32))).bind fun v6 =>
  mh_b2 (mh_cal h3 o2 12 (f_X12_put_e o2 v5 v6 h3)) fun v8 h7 =>
  mh_b2 (mh_cal h7 o2 12 (f_X12_thrown_e o2 h7)) fun v10 h9 =>
  if v10 = v4 then (
  if v4 = 0 then (
  (mh_aJ h9 o3 (0 : Int32)).bind fun w11 =>
  if (lg_cmp w11 ((v8).toInt64)) = 0 then (
  some h9) else
  none) else
  some h9) else
  none
set_option maxRecDepth 100000 in
set_option maxHeartbeats 4000000 in
theorem w_L_k24 {p : Program} {l : Launch} {e : Env} {s : State} {m : MethodId} {args : Array Value} {below : List Frame} {meth : Method} {c : Code} {D : va_G} {ks : Nat → ClassId} {L : List Nat} {A : Nat → Prop} {b N : Nat} {xs : Nat → Int32} {o1 o2 o3 : Nat} {x4 : Int32} {h h' : mh_H} {H : Heap} {locs : List Loc} {ls : Array Slot} {cells slots : Nat} {Q : State → Prop} (cx : mh_C p m c cL_law 8 s args RL meth D ks A) (th : mh_Th l A s) (nc : mh_Nc s) (hS : va_X b N xs s s.heap ∧ b < s.heap.size ∧ ¬ A b) (hc : cells + 3 ≤ room_1.cells ∧ slots + 18 ≤ room_1.slots) (wd : mh_W D ks L A s.heap h H locs) (hl : lv_has ls 8 [(0, .ref b), (1, .ref o1), (2, .ref o2), (3, .ref o3), (4, .int x4)]) (hX : f_L_k24 xs N o1 o2 o3 x4 h = some h')
    (kk : ∀ H locs ls, mh_W D ks L A s.heap h' H locs → lv_has ls 8 [(0, .ref b), (1, .ref o1), (2, .ref o2), (3, .ref o3), (4, .int x4)] → W p l e room_1 s m args below meth c H locs (cells + 3) (slots + 18) Q (F0 m 2678 ls [])) : W p l e room_1 s m args below meth c H locs cells slots Q (F0 m 1779 ls []) := by
  have hx := cx.1.1
  have hb := cx.1.2.1
  unfold f_L_k24 at hX
  refine lv_aload_n hx hb dL_law_1779 rfl (lv_at hl 1 rfl) ?_
  refine lv_aload_n hx hb dL_law_1780 rfl (lv_at hl 0 rfl) ?_
  refine lv_iload hx hb dL_law_1781 (lv_at hl 4 rfl) ?_
  refine lv_iconst (v := 1) hx hb dL_law_1783 (by decide) ?_
  refine lv_iadd hx hb dL_law_1784 ?_
  refine mh_scl cx wd hS dL_law_1785 hX (fun v1 hX => ?_)
  refine lv_aload_n hx hb dL_law_1786 rfl (lv_at hl 0 rfl) ?_
  refine lv_iload hx hb dL_law_1787 (lv_at hl 4 rfl) ?_
  refine lv_iconst (v := 2) hx hb dL_law_1789 (by decide) ?_
  refine lv_iadd hx hb dL_law_1790 ?_
  refine mh_scl cx wd hS dL_law_1791 hX (fun v2 hX => ?_)
  refine lv_aload_n hx hb dL_law_1792 rfl (lv_at hl 3 rfl) ?_
  refine mh_wS cx th nc wd (K := 2) [.ref o1, .int v1, .int v2, .ref o3] yx_L_put sw_L_220 rfl hl.1 rfl (Nat.le_of_ble_eq_true rfl) dL_law_1793 ⟨Nat.le_of_ble_eq_true rfl, Nat.le_of_ble_eq_true rfl⟩ (mh_rq hc (k := 2) (j := 12) (Nat.le_of_ble_eq_true rfl) (Nat.le_of_ble_eq_true rfl)) (fun _ _ q => c_L_put q) hX (fun v4 h3 H locs wd hX => ?_)
  refine lv_istore (lv' := [(5, .int v4), (0, .ref b), (1, .ref o1), (2, .ref o2), (3, .ref o3), (4, .int x4)]) hx hb dL_law_1796 hl (Nat.le_of_ble_eq_true rfl) rfl (fun ls hl => ?_)
  refine lv_aload_n hx hb dL_law_1798 rfl (lv_at hl 3 rfl) ?_
  refine lv_aload_n hx hb dL_law_1799 rfl (lv_at hl 1 rfl) ?_
  refine lv_iload hx hb dL_law_1800 (lv_at hl 5 rfl) ?_
  refine lv_iconst (v := 1) hx hb dL_law_1802 (by decide) ?_
  refine lv_iadd hx hb dL_law_1803 ?_
  refine mh_scl cx wd hS dL_law_1804 hX (fun v5 hX => ?_)
  refine lv_aload_n hx hb dL_law_1805 rfl (lv_at hl 1 rfl) ?_
  refine lv_iload hx hb dL_law_1806 (lv_at hl 5 rfl) ?_
  refine lv_iconst (v := 2) hx hb dL_law_1808 (by decide) ?_
  refine lv_iadd hx hb dL_law_1809 ?_
  refine mh_scl cx wd hS dL_law_1810 hX (fun v6 hX => ?_)
  refine mh_callVI cx wd [.int v5, .int v6] (rfl : vwCl[12]? = some (RX12, TX12, 38)) yw_X12_put vw_L_222 rfl hl.1 rfl (Nat.le_of_ble_eq_true rfl) dL_law_1811 ⟨Nat.le_of_ble_eq_true rfl, Nat.le_of_ble_eq_true rfl⟩ (mh_rq hc (k := 2) (j := 12) (Nat.le_of_ble_eq_true rfl) (Nat.le_of_ble_eq_true rfl)) (fun _ _ q => c_X12_put q) hX (fun v8 h7 H locs wd hX => ?_)
  refine lv_istore (lv' := [(6, .int v8), (5, .int v4), (0, .ref b), (1, .ref o1), (2, .ref o2), (3, .ref o3), (4, .int x4)]) hx hb dL_law_1814 hl (Nat.le_of_ble_eq_true rfl) rfl (fun ls hl => ?_)
  refine lv_aload_n hx hb dL_law_1816 rfl (lv_at hl 4 rfl) ?_
  refine mh_callVI cx wd [] (rfl : vwCl[12]? = some (RX12, TX12, 38)) yw_X12_thrown vw_L_143 rfl hl.1 rfl (Nat.le_of_ble_eq_true rfl) dL_law_1817 ⟨Nat.le_of_ble_eq_true rfl, Nat.le_of_ble_eq_true rfl⟩ (mh_rq hc (k := 2) (j := 12) (Nat.le_of_ble_eq_true rfl) (Nat.le_of_ble_eq_true rfl)) (fun _ _ q => c_X12_thrown q) hX (fun v10 h9 H locs wd hX => ?_)
  refine lv_iload hx hb dL_law_1820 (lv_at hl 1 rfl) ?_
  refine lv_icmp_eq (tgt := 1827) hx hb dL_law_1822 rfl (fun hc => (fun hX => ?_) ((mh_if hX).1 hc)) (fun hc => (fun hX => ?_) ((mh_if hX).2 hc))
  · refine lv_iload hx hb dL_law_1827 (lv_at hl 1 rfl) ?_
    refine lv_if_ne (tgt := 1844) hx hb dL_law_1829 rfl (fun hc => (fun hX => ?_) ((mh_if hX).2 hc)) (fun hc => (fun hX => ?_) ((mh_if hX).1 hc))
    · refine lv_goto (tgt := 2678) hx hb dL_law_1844 rfl ?_
      cases hX
      refine W.widen (k := cells + 3) (n := slots + 18) (by omega) (by omega) ?_
      exact kk _ _ _ wd (lv_sub hl [2, 3, 4, 5, 6] rfl)
    · refine lv_aload_n hx hb dL_law_1832 rfl (lv_at hl 5 rfl) ?_
      refine lv_iconst (v := 0) hx hb dL_law_1833 (by decide) ?_
      refine mh_lald cx wd dL_law_1834 hX (fun w11 hX => ?_)
      refine lv_iload hx hb dL_law_1835 (lv_at hl 0 rfl) ?_
      refine lv_i2l hx hb dL_law_1837 rfl ?_
      refine W.lcmp hx hb dL_law_1838 ?_
      refine lv_if_eq (tgt := 1844) hx hb dL_law_1839 rfl (fun hc => (fun hX => ?_) ((mh_if hX).1 hc)) (fun hc => (fun hX => ?_) ((mh_if hX).2 hc))
      · refine lv_goto (tgt := 2678) hx hb dL_law_1844 rfl ?_
        cases hX
        refine W.widen (k := cells + 3) (n := slots + 18) (by omega) (by omega) ?_
        exact kk _ _ _ wd (lv_sub hl [2, 3, 4, 5, 6] rfl)
      · refine lv_iconst (v := 0) hx hb dL_law_1842 (by decide) ?_
        cases hX
  · refine lv_iconst (v := 0) hx hb dL_law_1825 (by decide) ?_
    cases hX
def f_L_k25 (xs : Nat → Int32) (N o1 o2 o3 : Nat) (x4 : Int32) (h : mh_H) : Option mh_H :=
  mh_b2 (f_L_rank_e o1 o3 h) fun v2 h1 =>
  mh_b2 (mh_cal h1 o2 12 (f_X12_rank_e o2 h1)) fun w4 h3 =>
  mh_b2 (mh_cal h3 o2 12 (f_X12_thrown_e o2 h3)) fun v6 h5 =>
  if v6 = v2 then (
  if v2 = 0 then (
  (mh_aJ h5 o3 (0 : Int32)).bind fun w7 =>
  if (lg_cmp w7 w4) = 0 then (
  some h5) else
  none) else
  some h5) else
  none
set_option maxRecDepth 100000 in
set_option maxHeartbeats 4000000 in
theorem w_L_k25 {p : Program} {l : Launch} {e : Env} {s : State} {m : MethodId} {args : Array Value} {below : List Frame} {meth : Method} {c : Code} {D : va_G} {ks : Nat → ClassId} {L : List Nat} {A : Nat → Prop} {b N : Nat} {xs : Nat → Int32} {o1 o2 o3 : Nat} {x4 : Int32} {h h' : mh_H} {H : Heap} {locs : List Loc} {ls : Array Slot} {cells slots : Nat} {Q : State → Prop} (cx : mh_C p m c cL_law 8 s args RL meth D ks A) (th : mh_Th l A s) (nc : mh_Nc s) (hS : va_X b N xs s s.heap ∧ b < s.heap.size ∧ ¬ A b) (hc : cells + 3 ≤ room_1.cells ∧ slots + 18 ≤ room_1.slots) (wd : mh_W D ks L A s.heap h H locs) (hl : lv_has ls 8 [(0, .ref b), (1, .ref o1), (2, .ref o2), (3, .ref o3), (4, .int x4)]) (hX : f_L_k25 xs N o1 o2 o3 x4 h = some h')
    (kk : ∀ H locs ls, mh_W D ks L A s.heap h' H locs → lv_has ls 8 [(0, .ref b), (1, .ref o1), (2, .ref o2), (3, .ref o3), (4, .int x4)] → W p l e room_1 s m args below meth c H locs (cells + 3) (slots + 18) Q (F0 m 2678 ls [])) : W p l e room_1 s m args below meth c H locs cells slots Q (F0 m 1847 ls []) := by
  have hx := cx.1.1
  have hb := cx.1.2.1
  unfold f_L_k25 at hX
  refine lv_aload_n hx hb dL_law_1847 rfl (lv_at hl 1 rfl) ?_
  refine lv_aload_n hx hb dL_law_1848 rfl (lv_at hl 3 rfl) ?_
  refine mh_wS cx th nc wd (K := 1) [.ref o1, .ref o3] yx_L_rank sw_L_223 rfl hl.1 rfl (Nat.le_of_ble_eq_true rfl) dL_law_1849 ⟨Nat.le_of_ble_eq_true rfl, Nat.le_of_ble_eq_true rfl⟩ (mh_rq hc (k := 1) (j := 6) (Nat.le_of_ble_eq_true rfl) (Nat.le_of_ble_eq_true rfl)) (fun _ _ q => c_L_rank q) hX (fun v2 h1 H locs wd hX => ?_)
  refine lv_istore (lv' := [(5, .int v2), (0, .ref b), (1, .ref o1), (2, .ref o2), (3, .ref o3), (4, .int x4)]) hx hb dL_law_1852 hl (Nat.le_of_ble_eq_true rfl) rfl (fun ls hl => ?_)
  refine lv_aload_n hx hb dL_law_1854 rfl (lv_at hl 3 rfl) ?_
  refine mh_callVJ cx wd [] (rfl : vwCl[12]? = some (RX12, TX12, 38)) yw_X12_rank vw_L_226 rfl hl.1 rfl (Nat.le_of_ble_eq_true rfl) dL_law_1855 ⟨Nat.le_of_ble_eq_true rfl, Nat.le_of_ble_eq_true rfl⟩ (mh_rq hc (k := 1) (j := 6) (Nat.le_of_ble_eq_true rfl) (Nat.le_of_ble_eq_true rfl)) (fun _ _ q => c_X12_rank q) hX (fun w4 h3 H locs wd hX => ?_)
  refine lv_lstore (lv' := [(6, .long w4), (5, .int v2), (0, .ref b), (1, .ref o1), (2, .ref o2), (3, .ref o3), (4, .int x4)]) hx hb dL_law_1858 hl (Nat.le_of_ble_eq_true rfl) rfl (fun ls hl => ?_)
  refine lv_aload_n hx hb dL_law_1860 rfl (lv_at hl 4 rfl) ?_
  refine mh_callVI cx wd [] (rfl : vwCl[12]? = some (RX12, TX12, 38)) yw_X12_thrown vw_L_143 rfl hl.1 rfl (Nat.le_of_ble_eq_true rfl) dL_law_1861 ⟨Nat.le_of_ble_eq_true rfl, Nat.le_of_ble_eq_true rfl⟩ (mh_rq hc (k := 1) (j := 6) (Nat.le_of_ble_eq_true rfl) (Nat.le_of_ble_eq_true rfl)) (fun _ _ q => c_X12_thrown q) hX (fun v6 h5 H locs wd hX => ?_)
  refine lv_iload hx hb dL_law_1864 (lv_at hl 1 rfl) ?_
  refine lv_icmp_eq (tgt := 1871) hx hb dL_law_1866 rfl (fun hc => (fun hX => ?_) ((mh_if hX).1 hc)) (fun hc => (fun hX => ?_) ((mh_if hX).2 hc))
  · refine lv_iload hx hb dL_law_1871 (lv_at hl 1 rfl) ?_
    refine lv_if_ne (tgt := 1887) hx hb dL_law_1873 rfl (fun hc => (fun hX => ?_) ((mh_if hX).2 hc)) (fun hc => (fun hX => ?_) ((mh_if hX).1 hc))
    · refine lv_goto (tgt := 2678) hx hb dL_law_1887 rfl ?_
      cases hX
      refine W.widen (k := cells + 3) (n := slots + 18) (by omega) (by omega) ?_
      exact kk _ _ _ wd (lv_sub hl [2, 3, 4, 5, 6] rfl)
    · refine lv_aload_n hx hb dL_law_1876 rfl (lv_at hl 5 rfl) ?_
      refine lv_iconst (v := 0) hx hb dL_law_1877 (by decide) ?_
      refine mh_lald cx wd dL_law_1878 hX (fun w7 hX => ?_)
      refine lv_lload hx hb dL_law_1879 (lv_at hl 0 rfl) ?_
      refine W.lcmp hx hb dL_law_1881 ?_
      refine lv_if_eq (tgt := 1887) hx hb dL_law_1882 rfl (fun hc => (fun hX => ?_) ((mh_if hX).1 hc)) (fun hc => (fun hX => ?_) ((mh_if hX).2 hc))
      · refine lv_goto (tgt := 2678) hx hb dL_law_1887 rfl ?_
        cases hX
        refine W.widen (k := cells + 3) (n := slots + 18) (by omega) (by omega) ?_
        exact kk _ _ _ wd (lv_sub hl [2, 3, 4, 5, 6] rfl)
      · refine lv_iconst (v := 0) hx hb dL_law_1885 (by decide) ?_
        cases hX
  · refine lv_iconst (v := 0) hx hb dL_law_1869 (by decide) ?_
    cases hX
def f_L_k26 (xs : Nat → Int32) (N o1 o2 o3 : Nat) (x4 : Int32) (h : mh_H) : Option mh_H :=
  (mh_sc xs N (x4 + (1 : Int32))).bind fun v1 =>
  (mh_sc xs N (x4 + (2 : Int32))).bind fun v2 =>
  mh_b2 (f_L_apart_e o1 v1 v2 o3 h) fun v4 h3 =>
  (mh_sc xs N (x4 + (1 : Int32))).bind fun v5 =>
  (mh_sc xs N (x4 + (2 : Int32))).bind fun v6 =>
  mh_b2 (mh_cal h3 o2 12 (f_X12_apart_e o2 v5 v6 h3)) fun v8 h7 =>
  mh_b2 (mh_cal h7 o2 12 (f_X12_thrown_e o2 h7)) fun v10 h9 =>
  if v10 = v4 then (
  if v4 = 0 then (
  (mh_aJ h9 o3 (0 : Int32)).bind fun w11 =>
  if (lg_cmp w11 ((v8).toInt64)) = 0 then (
  some h9) else
  none) else
  some h9) else
  none
set_option maxRecDepth 100000 in
set_option maxHeartbeats 4000000 in
theorem w_L_k26 {p : Program} {l : Launch} {e : Env} {s : State} {m : MethodId} {args : Array Value} {below : List Frame} {meth : Method} {c : Code} {D : va_G} {ks : Nat → ClassId} {L : List Nat} {A : Nat → Prop} {b N : Nat} {xs : Nat → Int32} {o1 o2 o3 : Nat} {x4 : Int32} {h h' : mh_H} {H : Heap} {locs : List Loc} {ls : Array Slot} {cells slots : Nat} {Q : State → Prop} (cx : mh_C p m c cL_law 8 s args RL meth D ks A) (th : mh_Th l A s) (nc : mh_Nc s) (hS : va_X b N xs s s.heap ∧ b < s.heap.size ∧ ¬ A b) (hc : cells + 3 ≤ room_1.cells ∧ slots + 18 ≤ room_1.slots) (wd : mh_W D ks L A s.heap h H locs) (hl : lv_has ls 8 [(0, .ref b), (1, .ref o1), (2, .ref o2), (3, .ref o3), (4, .int x4)]) (hX : f_L_k26 xs N o1 o2 o3 x4 h = some h')
    (kk : ∀ H locs ls, mh_W D ks L A s.heap h' H locs → lv_has ls 8 [(0, .ref b), (1, .ref o1), (2, .ref o2), (3, .ref o3), (4, .int x4)] → W p l e room_1 s m args below meth c H locs (cells + 3) (slots + 18) Q (F0 m 2678 ls [])) : W p l e room_1 s m args below meth c H locs cells slots Q (F0 m 1890 ls []) := by
  have hx := cx.1.1
  have hb := cx.1.2.1
  unfold f_L_k26 at hX
  refine lv_aload_n hx hb dL_law_1890 rfl (lv_at hl 1 rfl) ?_
  refine lv_aload_n hx hb dL_law_1891 rfl (lv_at hl 0 rfl) ?_
  refine lv_iload hx hb dL_law_1892 (lv_at hl 4 rfl) ?_
  refine lv_iconst (v := 1) hx hb dL_law_1894 (by decide) ?_
  refine lv_iadd hx hb dL_law_1895 ?_
  refine mh_scl cx wd hS dL_law_1896 hX (fun v1 hX => ?_)
  refine lv_aload_n hx hb dL_law_1897 rfl (lv_at hl 0 rfl) ?_
  refine lv_iload hx hb dL_law_1898 (lv_at hl 4 rfl) ?_
  refine lv_iconst (v := 2) hx hb dL_law_1900 (by decide) ?_
  refine lv_iadd hx hb dL_law_1901 ?_
  refine mh_scl cx wd hS dL_law_1902 hX (fun v2 hX => ?_)
  refine lv_aload_n hx hb dL_law_1903 rfl (lv_at hl 3 rfl) ?_
  refine mh_wS cx th nc wd (K := 2) [.ref o1, .int v1, .int v2, .ref o3] yx_L_apart sw_L_227 rfl hl.1 rfl (Nat.le_of_ble_eq_true rfl) dL_law_1904 ⟨Nat.le_of_ble_eq_true rfl, Nat.le_of_ble_eq_true rfl⟩ (mh_rq hc (k := 2) (j := 12) (Nat.le_of_ble_eq_true rfl) (Nat.le_of_ble_eq_true rfl)) (fun _ _ q => c_L_apart q) hX (fun v4 h3 H locs wd hX => ?_)
  refine lv_istore (lv' := [(5, .int v4), (0, .ref b), (1, .ref o1), (2, .ref o2), (3, .ref o3), (4, .int x4)]) hx hb dL_law_1907 hl (Nat.le_of_ble_eq_true rfl) rfl (fun ls hl => ?_)
  refine lv_aload_n hx hb dL_law_1909 rfl (lv_at hl 3 rfl) ?_
  refine lv_aload_n hx hb dL_law_1910 rfl (lv_at hl 1 rfl) ?_
  refine lv_iload hx hb dL_law_1911 (lv_at hl 5 rfl) ?_
  refine lv_iconst (v := 1) hx hb dL_law_1913 (by decide) ?_
  refine lv_iadd hx hb dL_law_1914 ?_
  refine mh_scl cx wd hS dL_law_1915 hX (fun v5 hX => ?_)
  refine lv_aload_n hx hb dL_law_1916 rfl (lv_at hl 1 rfl) ?_
  refine lv_iload hx hb dL_law_1917 (lv_at hl 5 rfl) ?_
  refine lv_iconst (v := 2) hx hb dL_law_1919 (by decide) ?_
  refine lv_iadd hx hb dL_law_1920 ?_
  refine mh_scl cx wd hS dL_law_1921 hX (fun v6 hX => ?_)
  refine mh_callVI cx wd [.int v5, .int v6] (rfl : vwCl[12]? = some (RX12, TX12, 38)) yw_X12_apart vw_L_229 rfl hl.1 rfl (Nat.le_of_ble_eq_true rfl) dL_law_1922 ⟨Nat.le_of_ble_eq_true rfl, Nat.le_of_ble_eq_true rfl⟩ (mh_rq hc (k := 2) (j := 12) (Nat.le_of_ble_eq_true rfl) (Nat.le_of_ble_eq_true rfl)) (fun _ _ q => c_X12_apart q) hX (fun v8 h7 H locs wd hX => ?_)
  refine lv_istore (lv' := [(6, .int v8), (5, .int v4), (0, .ref b), (1, .ref o1), (2, .ref o2), (3, .ref o3), (4, .int x4)]) hx hb dL_law_1925 hl (Nat.le_of_ble_eq_true rfl) rfl (fun ls hl => ?_)
  refine lv_aload_n hx hb dL_law_1927 rfl (lv_at hl 4 rfl) ?_
  refine mh_callVI cx wd [] (rfl : vwCl[12]? = some (RX12, TX12, 38)) yw_X12_thrown vw_L_143 rfl hl.1 rfl (Nat.le_of_ble_eq_true rfl) dL_law_1928 ⟨Nat.le_of_ble_eq_true rfl, Nat.le_of_ble_eq_true rfl⟩ (mh_rq hc (k := 2) (j := 12) (Nat.le_of_ble_eq_true rfl) (Nat.le_of_ble_eq_true rfl)) (fun _ _ q => c_X12_thrown q) hX (fun v10 h9 H locs wd hX => ?_)
  refine lv_iload hx hb dL_law_1931 (lv_at hl 1 rfl) ?_
  refine lv_icmp_eq (tgt := 1938) hx hb dL_law_1933 rfl (fun hc => (fun hX => ?_) ((mh_if hX).1 hc)) (fun hc => (fun hX => ?_) ((mh_if hX).2 hc))
  · refine lv_iload hx hb dL_law_1938 (lv_at hl 1 rfl) ?_
    refine lv_if_ne (tgt := 1955) hx hb dL_law_1940 rfl (fun hc => (fun hX => ?_) ((mh_if hX).2 hc)) (fun hc => (fun hX => ?_) ((mh_if hX).1 hc))
    · refine lv_goto (tgt := 2678) hx hb dL_law_1955 rfl ?_
      cases hX
      refine W.widen (k := cells + 3) (n := slots + 18) (by omega) (by omega) ?_
      exact kk _ _ _ wd (lv_sub hl [2, 3, 4, 5, 6] rfl)
    · refine lv_aload_n hx hb dL_law_1943 rfl (lv_at hl 5 rfl) ?_
      refine lv_iconst (v := 0) hx hb dL_law_1944 (by decide) ?_
      refine mh_lald cx wd dL_law_1945 hX (fun w11 hX => ?_)
      refine lv_iload hx hb dL_law_1946 (lv_at hl 0 rfl) ?_
      refine lv_i2l hx hb dL_law_1948 rfl ?_
      refine W.lcmp hx hb dL_law_1949 ?_
      refine lv_if_eq (tgt := 1955) hx hb dL_law_1950 rfl (fun hc => (fun hX => ?_) ((mh_if hX).1 hc)) (fun hc => (fun hX => ?_) ((mh_if hX).2 hc))
      · refine lv_goto (tgt := 2678) hx hb dL_law_1955 rfl ?_
        cases hX
        refine W.widen (k := cells + 3) (n := slots + 18) (by omega) (by omega) ?_
        exact kk _ _ _ wd (lv_sub hl [2, 3, 4, 5, 6] rfl)
      · refine lv_iconst (v := 0) hx hb dL_law_1953 (by decide) ?_
        cases hX
  · refine lv_iconst (v := 0) hx hb dL_law_1936 (by decide) ?_
    cases hX
def f_L_k27 (xs : Nat → Int32) (N o1 o2 o3 : Nat) (x4 : Int32) (h : mh_H) : Option mh_H :=
  (mh_sc xs N (x4 + (1 : Int32))).bind fun v1 =>
  (mh_sc xs N (x4 + (2 : Int32))).bind fun v2 =>
  mh_b2 (f_L_stamps_e o1 v1 v2 o3 h) fun v4 h3 =>
  (mh_sc xs N (x4 + (1 : Int32))).bind fun v5 =>
  (mh_sc xs N (x4 + (2 : Int32))).bind fun v6 =>
  mh_b2 (mh_cal h3 o2 12 (f_X12_stamps_e o2 v5 v6 h3)) fun v8 h7 =>
  mh_b2 (mh_cal h7 o2 12 (f_X12_thrown_e o2 h7)) fun v10 h9 =>
  if v10 = v4 then (
  if v4 = 0 then (
  (mh_aJ h9 o3 (0 : Int32)).bind fun w11 =>
  if (lg_cmp w11 ((v8).toInt64)) = 0 then (
  some h9) else
  none) else
  some h9) else
  none
set_option maxRecDepth 100000 in
set_option maxHeartbeats 4000000 in
theorem w_L_k27 {p : Program} {l : Launch} {e : Env} {s : State} {m : MethodId} {args : Array Value} {below : List Frame} {meth : Method} {c : Code} {D : va_G} {ks : Nat → ClassId} {L : List Nat} {A : Nat → Prop} {b N : Nat} {xs : Nat → Int32} {o1 o2 o3 : Nat} {x4 : Int32} {h h' : mh_H} {H : Heap} {locs : List Loc} {ls : Array Slot} {cells slots : Nat} {Q : State → Prop} (cx : mh_C p m c cL_law 8 s args RL meth D ks A) (th : mh_Th l A s) (nc : mh_Nc s) (hS : va_X b N xs s s.heap ∧ b < s.heap.size ∧ ¬ A b) (hc : cells + 3 ≤ room_1.cells ∧ slots + 18 ≤ room_1.slots) (wd : mh_W D ks L A s.heap h H locs) (hl : lv_has ls 8 [(0, .ref b), (1, .ref o1), (2, .ref o2), (3, .ref o3), (4, .int x4)]) (hX : f_L_k27 xs N o1 o2 o3 x4 h = some h')
    (kk : ∀ H locs ls, mh_W D ks L A s.heap h' H locs → lv_has ls 8 [(0, .ref b), (1, .ref o1), (2, .ref o2), (3, .ref o3), (4, .int x4)] → W p l e room_1 s m args below meth c H locs (cells + 3) (slots + 18) Q (F0 m 2678 ls [])) : W p l e room_1 s m args below meth c H locs cells slots Q (F0 m 1958 ls []) := by
  have hx := cx.1.1
  have hb := cx.1.2.1
  unfold f_L_k27 at hX
  refine lv_aload_n hx hb dL_law_1958 rfl (lv_at hl 1 rfl) ?_
  refine lv_aload_n hx hb dL_law_1959 rfl (lv_at hl 0 rfl) ?_
  refine lv_iload hx hb dL_law_1960 (lv_at hl 4 rfl) ?_
  refine lv_iconst (v := 1) hx hb dL_law_1962 (by decide) ?_
  refine lv_iadd hx hb dL_law_1963 ?_
  refine mh_scl cx wd hS dL_law_1964 hX (fun v1 hX => ?_)
  refine lv_aload_n hx hb dL_law_1965 rfl (lv_at hl 0 rfl) ?_
  refine lv_iload hx hb dL_law_1966 (lv_at hl 4 rfl) ?_
  refine lv_iconst (v := 2) hx hb dL_law_1968 (by decide) ?_
  refine lv_iadd hx hb dL_law_1969 ?_
  refine mh_scl cx wd hS dL_law_1970 hX (fun v2 hX => ?_)
  refine lv_aload_n hx hb dL_law_1971 rfl (lv_at hl 3 rfl) ?_
  refine mh_wS cx th nc wd (K := 2) [.ref o1, .int v1, .int v2, .ref o3] yx_L_stamps sw_L_230 rfl hl.1 rfl (Nat.le_of_ble_eq_true rfl) dL_law_1972 ⟨Nat.le_of_ble_eq_true rfl, Nat.le_of_ble_eq_true rfl⟩ (mh_rq hc (k := 2) (j := 12) (Nat.le_of_ble_eq_true rfl) (Nat.le_of_ble_eq_true rfl)) (fun _ _ q => c_L_stamps q) hX (fun v4 h3 H locs wd hX => ?_)
  refine lv_istore (lv' := [(5, .int v4), (0, .ref b), (1, .ref o1), (2, .ref o2), (3, .ref o3), (4, .int x4)]) hx hb dL_law_1975 hl (Nat.le_of_ble_eq_true rfl) rfl (fun ls hl => ?_)
  refine lv_aload_n hx hb dL_law_1977 rfl (lv_at hl 3 rfl) ?_
  refine lv_aload_n hx hb dL_law_1978 rfl (lv_at hl 1 rfl) ?_
  refine lv_iload hx hb dL_law_1979 (lv_at hl 5 rfl) ?_
  refine lv_iconst (v := 1) hx hb dL_law_1981 (by decide) ?_
  refine lv_iadd hx hb dL_law_1982 ?_
  refine mh_scl cx wd hS dL_law_1983 hX (fun v5 hX => ?_)
  refine lv_aload_n hx hb dL_law_1984 rfl (lv_at hl 1 rfl) ?_
  refine lv_iload hx hb dL_law_1985 (lv_at hl 5 rfl) ?_
  refine lv_iconst (v := 2) hx hb dL_law_1987 (by decide) ?_
  refine lv_iadd hx hb dL_law_1988 ?_
  refine mh_scl cx wd hS dL_law_1989 hX (fun v6 hX => ?_)
  refine mh_callVI cx wd [.int v5, .int v6] (rfl : vwCl[12]? = some (RX12, TX12, 38)) yw_X12_stamps vw_L_232 rfl hl.1 rfl (Nat.le_of_ble_eq_true rfl) dL_law_1990 ⟨Nat.le_of_ble_eq_true rfl, Nat.le_of_ble_eq_true rfl⟩ (mh_rq hc (k := 2) (j := 12) (Nat.le_of_ble_eq_true rfl) (Nat.le_of_ble_eq_true rfl)) (fun _ _ q => c_X12_stamps q) hX (fun v8 h7 H locs wd hX => ?_)
  refine lv_istore (lv' := [(6, .int v8), (5, .int v4), (0, .ref b), (1, .ref o1), (2, .ref o2), (3, .ref o3), (4, .int x4)]) hx hb dL_law_1993 hl (Nat.le_of_ble_eq_true rfl) rfl (fun ls hl => ?_)
  refine lv_aload_n hx hb dL_law_1995 rfl (lv_at hl 4 rfl) ?_
  refine mh_callVI cx wd [] (rfl : vwCl[12]? = some (RX12, TX12, 38)) yw_X12_thrown vw_L_143 rfl hl.1 rfl (Nat.le_of_ble_eq_true rfl) dL_law_1996 ⟨Nat.le_of_ble_eq_true rfl, Nat.le_of_ble_eq_true rfl⟩ (mh_rq hc (k := 2) (j := 12) (Nat.le_of_ble_eq_true rfl) (Nat.le_of_ble_eq_true rfl)) (fun _ _ q => c_X12_thrown q) hX (fun v10 h9 H locs wd hX => ?_)
  refine lv_iload hx hb dL_law_1999 (lv_at hl 1 rfl) ?_
  refine lv_icmp_eq (tgt := 2006) hx hb dL_law_2001 rfl (fun hc => (fun hX => ?_) ((mh_if hX).1 hc)) (fun hc => (fun hX => ?_) ((mh_if hX).2 hc))
  · refine lv_iload hx hb dL_law_2006 (lv_at hl 1 rfl) ?_
    refine lv_if_ne (tgt := 2023) hx hb dL_law_2008 rfl (fun hc => (fun hX => ?_) ((mh_if hX).2 hc)) (fun hc => (fun hX => ?_) ((mh_if hX).1 hc))
    · refine lv_goto (tgt := 2678) hx hb dL_law_2023 rfl ?_
      cases hX
      refine W.widen (k := cells + 3) (n := slots + 18) (by omega) (by omega) ?_
      exact kk _ _ _ wd (lv_sub hl [2, 3, 4, 5, 6] rfl)
    · refine lv_aload_n hx hb dL_law_2011 rfl (lv_at hl 5 rfl) ?_
      refine lv_iconst (v := 0) hx hb dL_law_2012 (by decide) ?_
      refine mh_lald cx wd dL_law_2013 hX (fun w11 hX => ?_)
      refine lv_iload hx hb dL_law_2014 (lv_at hl 0 rfl) ?_
      refine lv_i2l hx hb dL_law_2016 rfl ?_
      refine W.lcmp hx hb dL_law_2017 ?_
      refine lv_if_eq (tgt := 2023) hx hb dL_law_2018 rfl (fun hc => (fun hX => ?_) ((mh_if hX).1 hc)) (fun hc => (fun hX => ?_) ((mh_if hX).2 hc))
      · refine lv_goto (tgt := 2678) hx hb dL_law_2023 rfl ?_
        cases hX
        refine W.widen (k := cells + 3) (n := slots + 18) (by omega) (by omega) ?_
        exact kk _ _ _ wd (lv_sub hl [2, 3, 4, 5, 6] rfl)
      · refine lv_iconst (v := 0) hx hb dL_law_2021 (by decide) ?_
        cases hX
  · refine lv_iconst (v := 0) hx hb dL_law_2004 (by decide) ?_
    cases hX
def f_L_k28 (xs : Nat → Int32) (N o1 o2 o3 : Nat) (x4 : Int32) (h : mh_H) : Option mh_H :=
  (mh_sc xs N (x4 + (1 : Int32))).bind fun v1 =>
  (mh_sc xs N (x4 + (2 : Int32))).bind fun v2 =>
  (mh_sc xs N (x4 + (3 : Int32))).bind fun v3 =>
  mh_b2 (f_L_span_e o1 v1 v2 v3 o3 h) fun v5 h4 =>
  (mh_sc xs N (x4 + (1 : Int32))).bind fun v6 =>
  (mh_sc xs N (x4 + (2 : Int32))).bind fun v7 =>
  (mh_sc xs N (x4 + (3 : Int32))).bind fun v8 =>
  mh_b2 (mh_cal h4 o2 12 (f_X12_span_e o2 v6 v7 v8 h4)) fun w10 h9 =>
  mh_b2 (mh_cal h9 o2 12 (f_X12_thrown_e o2 h9)) fun v12 h11 =>
  if v12 = v5 then (
  if v5 = 0 then (
  (mh_aJ h11 o3 (0 : Int32)).bind fun w13 =>
  if (lg_cmp w13 w10) = 0 then (
  some h11) else
  none) else
  some h11) else
  none
set_option maxRecDepth 100000 in
set_option maxHeartbeats 4000000 in
theorem w_L_k28 {p : Program} {l : Launch} {e : Env} {s : State} {m : MethodId} {args : Array Value} {below : List Frame} {meth : Method} {c : Code} {D : va_G} {ks : Nat → ClassId} {L : List Nat} {A : Nat → Prop} {b N : Nat} {xs : Nat → Int32} {o1 o2 o3 : Nat} {x4 : Int32} {h h' : mh_H} {H : Heap} {locs : List Loc} {ls : Array Slot} {cells slots : Nat} {Q : State → Prop} (cx : mh_C p m c cL_law 8 s args RL meth D ks A) (th : mh_Th l A s) (nc : mh_Nc s) (hS : va_X b N xs s s.heap ∧ b < s.heap.size ∧ ¬ A b) (hc : cells + 3 ≤ room_1.cells ∧ slots + 18 ≤ room_1.slots) (wd : mh_W D ks L A s.heap h H locs) (hl : lv_has ls 8 [(0, .ref b), (1, .ref o1), (2, .ref o2), (3, .ref o3), (4, .int x4)]) (hX : f_L_k28 xs N o1 o2 o3 x4 h = some h')
    (kk : ∀ H locs ls, mh_W D ks L A s.heap h' H locs → lv_has ls 8 [(0, .ref b), (1, .ref o1), (2, .ref o2), (3, .ref o3), (4, .int x4)] → W p l e room_1 s m args below meth c H locs (cells + 3) (slots + 18) Q (F0 m 2678 ls [])) : W p l e room_1 s m args below meth c H locs cells slots Q (F0 m 2026 ls []) := by
  have hx := cx.1.1
  have hb := cx.1.2.1
  unfold f_L_k28 at hX
  refine lv_aload_n hx hb dL_law_2026 rfl (lv_at hl 1 rfl) ?_
  refine lv_aload_n hx hb dL_law_2027 rfl (lv_at hl 0 rfl) ?_
  refine lv_iload hx hb dL_law_2028 (lv_at hl 4 rfl) ?_
  refine lv_iconst (v := 1) hx hb dL_law_2030 (by decide) ?_
  refine lv_iadd hx hb dL_law_2031 ?_
  refine mh_scl cx wd hS dL_law_2032 hX (fun v1 hX => ?_)
  refine lv_aload_n hx hb dL_law_2033 rfl (lv_at hl 0 rfl) ?_
  refine lv_iload hx hb dL_law_2034 (lv_at hl 4 rfl) ?_
  refine lv_iconst (v := 2) hx hb dL_law_2036 (by decide) ?_
  refine lv_iadd hx hb dL_law_2037 ?_
  refine mh_scl cx wd hS dL_law_2038 hX (fun v2 hX => ?_)
  refine lv_aload_n hx hb dL_law_2039 rfl (lv_at hl 0 rfl) ?_
  refine lv_iload hx hb dL_law_2040 (lv_at hl 4 rfl) ?_
  refine lv_iconst (v := 3) hx hb dL_law_2042 (by decide) ?_
  refine lv_iadd hx hb dL_law_2043 ?_
  refine mh_scl cx wd hS dL_law_2044 hX (fun v3 hX => ?_)
  refine lv_aload_n hx hb dL_law_2045 rfl (lv_at hl 3 rfl) ?_
  refine mh_wS cx th nc wd (K := 2) [.ref o1, .int v1, .int v2, .int v3, .ref o3] yx_L_span sw_L_233 rfl hl.1 rfl (Nat.le_of_ble_eq_true rfl) dL_law_2046 ⟨Nat.le_of_ble_eq_true rfl, Nat.le_of_ble_eq_true rfl⟩ (mh_rq hc (k := 2) (j := 12) (Nat.le_of_ble_eq_true rfl) (Nat.le_of_ble_eq_true rfl)) (fun _ _ q => c_L_span q) hX (fun v5 h4 H locs wd hX => ?_)
  refine lv_istore (lv' := [(5, .int v5), (0, .ref b), (1, .ref o1), (2, .ref o2), (3, .ref o3), (4, .int x4)]) hx hb dL_law_2049 hl (Nat.le_of_ble_eq_true rfl) rfl (fun ls hl => ?_)
  refine lv_aload_n hx hb dL_law_2051 rfl (lv_at hl 3 rfl) ?_
  refine lv_aload_n hx hb dL_law_2052 rfl (lv_at hl 1 rfl) ?_
  refine lv_iload hx hb dL_law_2053 (lv_at hl 5 rfl) ?_
  refine lv_iconst (v := 1) hx hb dL_law_2055 (by decide) ?_
  refine lv_iadd hx hb dL_law_2056 ?_
  refine mh_scl cx wd hS dL_law_2057 hX (fun v6 hX => ?_)
  refine lv_aload_n hx hb dL_law_2058 rfl (lv_at hl 1 rfl) ?_
  refine lv_iload hx hb dL_law_2059 (lv_at hl 5 rfl) ?_
  refine lv_iconst (v := 2) hx hb dL_law_2061 (by decide) ?_
  refine lv_iadd hx hb dL_law_2062 ?_
  refine mh_scl cx wd hS dL_law_2063 hX (fun v7 hX => ?_)
  refine lv_aload_n hx hb dL_law_2064 rfl (lv_at hl 1 rfl) ?_
  refine lv_iload hx hb dL_law_2065 (lv_at hl 5 rfl) ?_
  refine lv_iconst (v := 3) hx hb dL_law_2067 (by decide) ?_
  refine lv_iadd hx hb dL_law_2068 ?_
  refine mh_scl cx wd hS dL_law_2069 hX (fun v8 hX => ?_)
  refine mh_callVJ cx wd [.int v6, .int v7, .int v8] (rfl : vwCl[12]? = some (RX12, TX12, 38)) yw_X12_span vw_L_235 rfl hl.1 rfl (Nat.le_of_ble_eq_true rfl) dL_law_2070 ⟨Nat.le_of_ble_eq_true rfl, Nat.le_of_ble_eq_true rfl⟩ (mh_rq hc (k := 2) (j := 12) (Nat.le_of_ble_eq_true rfl) (Nat.le_of_ble_eq_true rfl)) (fun _ _ q => c_X12_span q) hX (fun w10 h9 H locs wd hX => ?_)
  refine lv_lstore (lv' := [(6, .long w10), (5, .int v5), (0, .ref b), (1, .ref o1), (2, .ref o2), (3, .ref o3), (4, .int x4)]) hx hb dL_law_2073 hl (Nat.le_of_ble_eq_true rfl) rfl (fun ls hl => ?_)
  refine lv_aload_n hx hb dL_law_2075 rfl (lv_at hl 4 rfl) ?_
  refine mh_callVI cx wd [] (rfl : vwCl[12]? = some (RX12, TX12, 38)) yw_X12_thrown vw_L_143 rfl hl.1 rfl (Nat.le_of_ble_eq_true rfl) dL_law_2076 ⟨Nat.le_of_ble_eq_true rfl, Nat.le_of_ble_eq_true rfl⟩ (mh_rq hc (k := 2) (j := 12) (Nat.le_of_ble_eq_true rfl) (Nat.le_of_ble_eq_true rfl)) (fun _ _ q => c_X12_thrown q) hX (fun v12 h11 H locs wd hX => ?_)
  refine lv_iload hx hb dL_law_2079 (lv_at hl 1 rfl) ?_
  refine lv_icmp_eq (tgt := 2086) hx hb dL_law_2081 rfl (fun hc => (fun hX => ?_) ((mh_if hX).1 hc)) (fun hc => (fun hX => ?_) ((mh_if hX).2 hc))
  · refine lv_iload hx hb dL_law_2086 (lv_at hl 1 rfl) ?_
    refine lv_if_ne (tgt := 2102) hx hb dL_law_2088 rfl (fun hc => (fun hX => ?_) ((mh_if hX).2 hc)) (fun hc => (fun hX => ?_) ((mh_if hX).1 hc))
    · refine lv_goto (tgt := 2678) hx hb dL_law_2102 rfl ?_
      cases hX
      refine W.widen (k := cells + 3) (n := slots + 18) (by omega) (by omega) ?_
      exact kk _ _ _ wd (lv_sub hl [2, 3, 4, 5, 6] rfl)
    · refine lv_aload_n hx hb dL_law_2091 rfl (lv_at hl 5 rfl) ?_
      refine lv_iconst (v := 0) hx hb dL_law_2092 (by decide) ?_
      refine mh_lald cx wd dL_law_2093 hX (fun w13 hX => ?_)
      refine lv_lload hx hb dL_law_2094 (lv_at hl 0 rfl) ?_
      refine W.lcmp hx hb dL_law_2096 ?_
      refine lv_if_eq (tgt := 2102) hx hb dL_law_2097 rfl (fun hc => (fun hX => ?_) ((mh_if hX).1 hc)) (fun hc => (fun hX => ?_) ((mh_if hX).2 hc))
      · refine lv_goto (tgt := 2678) hx hb dL_law_2102 rfl ?_
        cases hX
        refine W.widen (k := cells + 3) (n := slots + 18) (by omega) (by omega) ?_
        exact kk _ _ _ wd (lv_sub hl [2, 3, 4, 5, 6] rfl)
      · refine lv_iconst (v := 0) hx hb dL_law_2100 (by decide) ?_
        cases hX
  · refine lv_iconst (v := 0) hx hb dL_law_2084 (by decide) ?_
    cases hX
def f_L_k29 (xs : Nat → Int32) (N o1 o2 o3 : Nat) (x4 : Int32) (h : mh_H) : Option mh_H :=
  (mh_sc xs N (x4 + (1 : Int32))).bind fun v1 =>
  (mh_sc xs N (x4 + (2 : Int32))).bind fun v2 =>
  (mh_sc xs N (x4 + (3 : Int32))).bind fun v3 =>
  mh_b2 (f_L_best_e o1 v1 v2 v3 o3 h) fun v5 h4 =>
  (mh_sc xs N (x4 + (1 : Int32))).bind fun v6 =>
  (mh_sc xs N (x4 + (2 : Int32))).bind fun v7 =>
  (mh_sc xs N (x4 + (3 : Int32))).bind fun v8 =>
  mh_b2 (mh_cal h4 o2 12 (f_X12_best_e o2 v6 v7 v8 h4)) fun v10 h9 =>
  mh_b2 (mh_cal h9 o2 12 (f_X12_thrown_e o2 h9)) fun v12 h11 =>
  if v12 = v5 then (
  if v5 = 0 then (
  (mh_aJ h11 o3 (0 : Int32)).bind fun w13 =>
  if (lg_cmp w13 ((v10).toInt64)) = 0 then (
  some h11) else
  none) else
  some h11) else
  none
set_option maxRecDepth 100000 in
set_option maxHeartbeats 4000000 in
theorem w_L_k29 {p : Program} {l : Launch} {e : Env} {s : State} {m : MethodId} {args : Array Value} {below : List Frame} {meth : Method} {c : Code} {D : va_G} {ks : Nat → ClassId} {L : List Nat} {A : Nat → Prop} {b N : Nat} {xs : Nat → Int32} {o1 o2 o3 : Nat} {x4 : Int32} {h h' : mh_H} {H : Heap} {locs : List Loc} {ls : Array Slot} {cells slots : Nat} {Q : State → Prop} (cx : mh_C p m c cL_law 8 s args RL meth D ks A) (th : mh_Th l A s) (nc : mh_Nc s) (hS : va_X b N xs s s.heap ∧ b < s.heap.size ∧ ¬ A b) (hc : cells + 3 ≤ room_1.cells ∧ slots + 18 ≤ room_1.slots) (wd : mh_W D ks L A s.heap h H locs) (hl : lv_has ls 8 [(0, .ref b), (1, .ref o1), (2, .ref o2), (3, .ref o3), (4, .int x4)]) (hX : f_L_k29 xs N o1 o2 o3 x4 h = some h')
    (kk : ∀ H locs ls, mh_W D ks L A s.heap h' H locs → lv_has ls 8 [(0, .ref b), (1, .ref o1), (2, .ref o2), (3, .ref o3), (4, .int x4)] → W p l e room_1 s m args below meth c H locs (cells + 3) (slots + 18) Q (F0 m 2678 ls [])) : W p l e room_1 s m args below meth c H locs cells slots Q (F0 m 2105 ls []) := by
  have hx := cx.1.1
  have hb := cx.1.2.1
  unfold f_L_k29 at hX
  refine lv_aload_n hx hb dL_law_2105 rfl (lv_at hl 1 rfl) ?_
  refine lv_aload_n hx hb dL_law_2106 rfl (lv_at hl 0 rfl) ?_
  refine lv_iload hx hb dL_law_2107 (lv_at hl 4 rfl) ?_
  refine lv_iconst (v := 1) hx hb dL_law_2109 (by decide) ?_
  refine lv_iadd hx hb dL_law_2110 ?_
  refine mh_scl cx wd hS dL_law_2111 hX (fun v1 hX => ?_)
  refine lv_aload_n hx hb dL_law_2112 rfl (lv_at hl 0 rfl) ?_
  refine lv_iload hx hb dL_law_2113 (lv_at hl 4 rfl) ?_
  refine lv_iconst (v := 2) hx hb dL_law_2115 (by decide) ?_
  refine lv_iadd hx hb dL_law_2116 ?_
  refine mh_scl cx wd hS dL_law_2117 hX (fun v2 hX => ?_)
  refine lv_aload_n hx hb dL_law_2118 rfl (lv_at hl 0 rfl) ?_
  refine lv_iload hx hb dL_law_2119 (lv_at hl 4 rfl) ?_
  refine lv_iconst (v := 3) hx hb dL_law_2121 (by decide) ?_
  refine lv_iadd hx hb dL_law_2122 ?_
  refine mh_scl cx wd hS dL_law_2123 hX (fun v3 hX => ?_)
  refine lv_aload_n hx hb dL_law_2124 rfl (lv_at hl 3 rfl) ?_
  refine mh_wS cx th nc wd (K := 2) [.ref o1, .int v1, .int v2, .int v3, .ref o3] yx_L_best sw_L_236 rfl hl.1 rfl (Nat.le_of_ble_eq_true rfl) dL_law_2125 ⟨Nat.le_of_ble_eq_true rfl, Nat.le_of_ble_eq_true rfl⟩ (mh_rq hc (k := 2) (j := 12) (Nat.le_of_ble_eq_true rfl) (Nat.le_of_ble_eq_true rfl)) (fun _ _ q => c_L_best q) hX (fun v5 h4 H locs wd hX => ?_)
  refine lv_istore (lv' := [(5, .int v5), (0, .ref b), (1, .ref o1), (2, .ref o2), (3, .ref o3), (4, .int x4)]) hx hb dL_law_2128 hl (Nat.le_of_ble_eq_true rfl) rfl (fun ls hl => ?_)
  refine lv_aload_n hx hb dL_law_2130 rfl (lv_at hl 3 rfl) ?_
  refine lv_aload_n hx hb dL_law_2131 rfl (lv_at hl 1 rfl) ?_
  refine lv_iload hx hb dL_law_2132 (lv_at hl 5 rfl) ?_
  refine lv_iconst (v := 1) hx hb dL_law_2134 (by decide) ?_
  refine lv_iadd hx hb dL_law_2135 ?_
  refine mh_scl cx wd hS dL_law_2136 hX (fun v6 hX => ?_)
  refine lv_aload_n hx hb dL_law_2137 rfl (lv_at hl 1 rfl) ?_
  refine lv_iload hx hb dL_law_2138 (lv_at hl 5 rfl) ?_
  refine lv_iconst (v := 2) hx hb dL_law_2140 (by decide) ?_
  refine lv_iadd hx hb dL_law_2141 ?_
  refine mh_scl cx wd hS dL_law_2142 hX (fun v7 hX => ?_)
  refine lv_aload_n hx hb dL_law_2143 rfl (lv_at hl 1 rfl) ?_
  refine lv_iload hx hb dL_law_2144 (lv_at hl 5 rfl) ?_
  refine lv_iconst (v := 3) hx hb dL_law_2146 (by decide) ?_
  refine lv_iadd hx hb dL_law_2147 ?_
  refine mh_scl cx wd hS dL_law_2148 hX (fun v8 hX => ?_)
  refine mh_callVI cx wd [.int v6, .int v7, .int v8] (rfl : vwCl[12]? = some (RX12, TX12, 38)) yw_X12_best vw_L_238 rfl hl.1 rfl (Nat.le_of_ble_eq_true rfl) dL_law_2149 ⟨Nat.le_of_ble_eq_true rfl, Nat.le_of_ble_eq_true rfl⟩ (mh_rq hc (k := 2) (j := 12) (Nat.le_of_ble_eq_true rfl) (Nat.le_of_ble_eq_true rfl)) (fun _ _ q => c_X12_best q) hX (fun v10 h9 H locs wd hX => ?_)
  refine lv_istore (lv' := [(6, .int v10), (5, .int v5), (0, .ref b), (1, .ref o1), (2, .ref o2), (3, .ref o3), (4, .int x4)]) hx hb dL_law_2152 hl (Nat.le_of_ble_eq_true rfl) rfl (fun ls hl => ?_)
  refine lv_aload_n hx hb dL_law_2154 rfl (lv_at hl 4 rfl) ?_
  refine mh_callVI cx wd [] (rfl : vwCl[12]? = some (RX12, TX12, 38)) yw_X12_thrown vw_L_143 rfl hl.1 rfl (Nat.le_of_ble_eq_true rfl) dL_law_2155 ⟨Nat.le_of_ble_eq_true rfl, Nat.le_of_ble_eq_true rfl⟩ (mh_rq hc (k := 2) (j := 12) (Nat.le_of_ble_eq_true rfl) (Nat.le_of_ble_eq_true rfl)) (fun _ _ q => c_X12_thrown q) hX (fun v12 h11 H locs wd hX => ?_)
  refine lv_iload hx hb dL_law_2158 (lv_at hl 1 rfl) ?_
  refine lv_icmp_eq (tgt := 2165) hx hb dL_law_2160 rfl (fun hc => (fun hX => ?_) ((mh_if hX).1 hc)) (fun hc => (fun hX => ?_) ((mh_if hX).2 hc))
  · refine lv_iload hx hb dL_law_2165 (lv_at hl 1 rfl) ?_
    refine lv_if_ne (tgt := 2182) hx hb dL_law_2167 rfl (fun hc => (fun hX => ?_) ((mh_if hX).2 hc)) (fun hc => (fun hX => ?_) ((mh_if hX).1 hc))
    · refine lv_goto (tgt := 2678) hx hb dL_law_2182 rfl ?_
      cases hX
      refine W.widen (k := cells + 3) (n := slots + 18) (by omega) (by omega) ?_
      exact kk _ _ _ wd (lv_sub hl [2, 3, 4, 5, 6] rfl)
    · refine lv_aload_n hx hb dL_law_2170 rfl (lv_at hl 5 rfl) ?_
      refine lv_iconst (v := 0) hx hb dL_law_2171 (by decide) ?_
      refine mh_lald cx wd dL_law_2172 hX (fun w13 hX => ?_)
      refine lv_iload hx hb dL_law_2173 (lv_at hl 0 rfl) ?_
      refine lv_i2l hx hb dL_law_2175 rfl ?_
      refine W.lcmp hx hb dL_law_2176 ?_
      refine lv_if_eq (tgt := 2182) hx hb dL_law_2177 rfl (fun hc => (fun hX => ?_) ((mh_if hX).1 hc)) (fun hc => (fun hX => ?_) ((mh_if hX).2 hc))
      · refine lv_goto (tgt := 2678) hx hb dL_law_2182 rfl ?_
        cases hX
        refine W.widen (k := cells + 3) (n := slots + 18) (by omega) (by omega) ?_
        exact kk _ _ _ wd (lv_sub hl [2, 3, 4, 5, 6] rfl)
      · refine lv_iconst (v := 0) hx hb dL_law_2180 (by decide) ?_
        cases hX
  · refine lv_iconst (v := 0) hx hb dL_law_2163 (by decide) ?_
    cases hX
def f_L_k30 (xs : Nat → Int32) (N o1 o2 o3 : Nat) (x4 : Int32) (h : mh_H) : Option mh_H :=
  mh_b2 (mh_cal h o1 11 (f_X11_cases_e o1 h)) fun v2 h1 =>
  mh_b2 (mh_cal h1 o2 12 (f_X12_cases_e o2 h1)) fun v4 h3 =>
  if v2 = v4 then (
  some h3) else
  none
set_option maxRecDepth 100000 in
set_option maxHeartbeats 4000000 in
theorem w_L_k30 {p : Program} {l : Launch} {e : Env} {s : State} {m : MethodId} {args : Array Value} {below : List Frame} {meth : Method} {c : Code} {D : va_G} {ks : Nat → ClassId} {L : List Nat} {A : Nat → Prop} {b N : Nat} {xs : Nat → Int32} {o1 o2 o3 : Nat} {x4 : Int32} {h h' : mh_H} {H : Heap} {locs : List Loc} {ls : Array Slot} {cells slots : Nat} {Q : State → Prop} (cx : mh_C p m c cL_law 8 s args RL meth D ks A) (th : mh_Th l A s) (nc : mh_Nc s) (hS : va_X b N xs s s.heap ∧ b < s.heap.size ∧ ¬ A b) (hc : cells + 3 ≤ room_1.cells ∧ slots + 18 ≤ room_1.slots) (wd : mh_W D ks L A s.heap h H locs) (hl : lv_has ls 8 [(0, .ref b), (1, .ref o1), (2, .ref o2), (3, .ref o3), (4, .int x4)]) (hX : f_L_k30 xs N o1 o2 o3 x4 h = some h')
    (kk : ∀ H locs ls, mh_W D ks L A s.heap h' H locs → lv_has ls 8 [(0, .ref b), (1, .ref o1), (2, .ref o2), (3, .ref o3), (4, .int x4)] → W p l e room_1 s m args below meth c H locs (cells + 3) (slots + 18) Q (F0 m 2678 ls [])) : W p l e room_1 s m args below meth c H locs cells slots Q (F0 m 2185 ls []) := by
  have hx := cx.1.1
  have hb := cx.1.2.1
  unfold f_L_k30 at hX
  refine lv_aload_n hx hb dL_law_2185 rfl (lv_at hl 1 rfl) ?_
  refine mh_callVI cx wd [] (rfl : vwCl[11]? = some (RX11, TX11, 16)) yw_X11_cases vw_L_239 rfl hl.1 rfl (Nat.le_of_ble_eq_true rfl) dL_law_2186 ⟨Nat.le_of_ble_eq_true rfl, Nat.le_of_ble_eq_true rfl⟩ (mh_rq hc (k := 0) (j := 0) (Nat.le_of_ble_eq_true rfl) (Nat.le_of_ble_eq_true rfl)) (fun _ _ q => c_X11_cases q) hX (fun v2 h1 H locs wd hX => ?_)
  refine lv_aload_n hx hb dL_law_2189 rfl (lv_at hl 2 rfl) ?_
  refine mh_callVI cx wd [] (rfl : vwCl[12]? = some (RX12, TX12, 38)) yw_X12_cases vw_L_242 rfl hl.1 rfl (Nat.le_of_ble_eq_true rfl) dL_law_2190 ⟨Nat.le_of_ble_eq_true rfl, Nat.le_of_ble_eq_true rfl⟩ (mh_rq hc (k := 0) (j := 0) (Nat.le_of_ble_eq_true rfl) (Nat.le_of_ble_eq_true rfl)) (fun _ _ q => c_X12_cases q) hX (fun v4 h3 H locs wd hX => ?_)
  refine lv_icmp_eq (tgt := 2678) hx hb dL_law_2193 rfl (fun hc => (fun hX => ?_) ((mh_if hX).1 hc)) (fun hc => (fun hX => ?_) ((mh_if hX).2 hc))
  · cases hX
    refine W.widen (k := cells + 3) (n := slots + 18) (by omega) (by omega) ?_
    exact kk _ _ _ wd (lv_sub hl [0, 1, 2, 3, 4] rfl)
  · refine lv_iconst (v := 0) hx hb dL_law_2196 (by decide) ?_
    cases hX
def f_L_k31 (xs : Nat → Int32) (N o1 o2 o3 : Nat) (x4 : Int32) (h : mh_H) : Option mh_H :=
  (mh_sc xs N (x4 + (1 : Int32))).bind fun v1 =>
  (mh_sc xs N (x4 + (2 : Int32))).bind fun v2 =>
  mh_b2 (f_L_open_e o1 v1 v2 h) fun v4 h3 =>
  (mh_sc xs N (x4 + (1 : Int32))).bind fun v5 =>
  (mh_sc xs N (x4 + (2 : Int32))).bind fun v6 =>
  (mh_cal h3 o2 12 (f_X12_open_e o2 v5 v6 h3)).bind fun h7 =>
  mh_b2 (mh_cal h7 o2 12 (f_X12_thrown_e o2 h7)) fun v9 h8 =>
  if v9 = v4 then (
  some h8) else
  none
set_option maxRecDepth 100000 in
set_option maxHeartbeats 4000000 in
theorem w_L_k31 {p : Program} {l : Launch} {e : Env} {s : State} {m : MethodId} {args : Array Value} {below : List Frame} {meth : Method} {c : Code} {D : va_G} {ks : Nat → ClassId} {L : List Nat} {A : Nat → Prop} {b N : Nat} {xs : Nat → Int32} {o1 o2 o3 : Nat} {x4 : Int32} {h h' : mh_H} {H : Heap} {locs : List Loc} {ls : Array Slot} {cells slots : Nat} {Q : State → Prop} (cx : mh_C p m c cL_law 8 s args RL meth D ks A) (th : mh_Th l A s) (nc : mh_Nc s) (hS : va_X b N xs s s.heap ∧ b < s.heap.size ∧ ¬ A b) (hc : cells + 3 ≤ room_1.cells ∧ slots + 18 ≤ room_1.slots) (wd : mh_W D ks L A s.heap h H locs) (hl : lv_has ls 8 [(0, .ref b), (1, .ref o1), (2, .ref o2), (3, .ref o3), (4, .int x4)]) (hX : f_L_k31 xs N o1 o2 o3 x4 h = some h')
    (kk : ∀ H locs ls, mh_W D ks L A s.heap h' H locs → lv_has ls 8 [(0, .ref b), (1, .ref o1), (2, .ref o2), (3, .ref o3), (4, .int x4)] → W p l e room_1 s m args below meth c H locs (cells + 3) (slots + 18) Q (F0 m 2678 ls [])) : W p l e room_1 s m args below meth c H locs cells slots Q (F0 m 2198 ls []) := by
  have hx := cx.1.1
  have hb := cx.1.2.1
  unfold f_L_k31 at hX
  refine lv_aload_n hx hb dL_law_2198 rfl (lv_at hl 1 rfl) ?_
  refine lv_aload_n hx hb dL_law_2199 rfl (lv_at hl 0 rfl) ?_
  refine lv_iload hx hb dL_law_2200 (lv_at hl 4 rfl) ?_
  refine lv_iconst (v := 1) hx hb dL_law_2202 (by decide) ?_
  refine lv_iadd hx hb dL_law_2203 ?_
  refine mh_scl cx wd hS dL_law_2204 hX (fun v1 hX => ?_)
  refine lv_aload_n hx hb dL_law_2205 rfl (lv_at hl 0 rfl) ?_
  refine lv_iload hx hb dL_law_2206 (lv_at hl 4 rfl) ?_
  refine lv_iconst (v := 2) hx hb dL_law_2208 (by decide) ?_
  refine lv_iadd hx hb dL_law_2209 ?_
  refine mh_scl cx wd hS dL_law_2210 hX (fun v2 hX => ?_)
  refine mh_wS cx th nc wd (K := 2) [.ref o1, .int v1, .int v2] yx_L_open sw_L_243 rfl hl.1 rfl (Nat.le_of_ble_eq_true rfl) dL_law_2211 ⟨Nat.le_of_ble_eq_true rfl, Nat.le_of_ble_eq_true rfl⟩ (mh_rq hc (k := 2) (j := 12) (Nat.le_of_ble_eq_true rfl) (Nat.le_of_ble_eq_true rfl)) (fun _ _ q => c_L_open q) hX (fun v4 h3 H locs wd hX => ?_)
  refine lv_istore (lv' := [(5, .int v4), (0, .ref b), (1, .ref o1), (2, .ref o2), (3, .ref o3), (4, .int x4)]) hx hb dL_law_2214 hl (Nat.le_of_ble_eq_true rfl) rfl (fun ls hl => ?_)
  refine lv_aload_n hx hb dL_law_2216 rfl (lv_at hl 3 rfl) ?_
  refine lv_aload_n hx hb dL_law_2217 rfl (lv_at hl 1 rfl) ?_
  refine lv_iload hx hb dL_law_2218 (lv_at hl 5 rfl) ?_
  refine lv_iconst (v := 1) hx hb dL_law_2220 (by decide) ?_
  refine lv_iadd hx hb dL_law_2221 ?_
  refine mh_scl cx wd hS dL_law_2222 hX (fun v5 hX => ?_)
  refine lv_aload_n hx hb dL_law_2223 rfl (lv_at hl 1 rfl) ?_
  refine lv_iload hx hb dL_law_2224 (lv_at hl 5 rfl) ?_
  refine lv_iconst (v := 2) hx hb dL_law_2226 (by decide) ?_
  refine lv_iadd hx hb dL_law_2227 ?_
  refine mh_scl cx wd hS dL_law_2228 hX (fun v6 hX => ?_)
  refine mh_callVV cx wd [.int v5, .int v6] (rfl : vwCl[12]? = some (RX12, TX12, 38)) yw_X12_open vw_L_246 rfl hl.1 rfl (Nat.le_of_ble_eq_true rfl) dL_law_2229 ⟨Nat.le_of_ble_eq_true rfl, Nat.le_of_ble_eq_true rfl⟩ (mh_rq hc (k := 2) (j := 12) (Nat.le_of_ble_eq_true rfl) (Nat.le_of_ble_eq_true rfl)) (fun _ q => c_X12_open q) hX (fun h7 H locs wd hX => ?_)
  refine lv_aload_n hx hb dL_law_2232 rfl (lv_at hl 3 rfl) ?_
  refine mh_callVI cx wd [] (rfl : vwCl[12]? = some (RX12, TX12, 38)) yw_X12_thrown vw_L_143 rfl hl.1 rfl (Nat.le_of_ble_eq_true rfl) dL_law_2233 ⟨Nat.le_of_ble_eq_true rfl, Nat.le_of_ble_eq_true rfl⟩ (mh_rq hc (k := 2) (j := 12) (Nat.le_of_ble_eq_true rfl) (Nat.le_of_ble_eq_true rfl)) (fun _ _ q => c_X12_thrown q) hX (fun v9 h8 H locs wd hX => ?_)
  refine lv_iload hx hb dL_law_2236 (lv_at hl 0 rfl) ?_
  refine lv_icmp_eq (tgt := 2243) hx hb dL_law_2238 rfl (fun hc => (fun hX => ?_) ((mh_if hX).1 hc)) (fun hc => (fun hX => ?_) ((mh_if hX).2 hc))
  · refine lv_goto (tgt := 2678) hx hb dL_law_2243 rfl ?_
    cases hX
    refine W.widen (k := cells + 3) (n := slots + 18) (by omega) (by omega) ?_
    exact kk _ _ _ wd (lv_sub hl [1, 2, 3, 4, 5] rfl)
  · refine lv_iconst (v := 0) hx hb dL_law_2241 (by decide) ?_
    cases hX
def f_L_k32 (xs : Nat → Int32) (N o1 o2 o3 : Nat) (x4 : Int32) (h : mh_H) : Option mh_H :=
  (mh_sc xs N (x4 + (1 : Int32))).bind fun v1 =>
  (mh_sc xs N (x4 + (2 : Int32))).bind fun v2 =>
  (mh_sc xs N (x4 + (3 : Int32))).bind fun v3 =>
  mh_b2 (f_L_fill_e o1 v1 v2 v3 o3 h) fun v5 h4 =>
  (mh_sc xs N (x4 + (1 : Int32))).bind fun v6 =>
  (mh_sc xs N (x4 + (2 : Int32))).bind fun v7 =>
  (mh_sc xs N (x4 + (3 : Int32))).bind fun v8 =>
  mh_b2 (mh_cal h4 o2 12 (f_X12_fill_e o2 v6 v7 v8 h4)) fun v10 h9 =>
  mh_b2 (mh_cal h9 o2 12 (f_X12_thrown_e o2 h9)) fun v12 h11 =>
  if v12 = v5 then (
  if v5 = 0 then (
  (mh_aJ h11 o3 (0 : Int32)).bind fun w13 =>
  if (lg_cmp w13 ((v10).toInt64)) = 0 then (
  some h11) else
  none) else
  some h11) else
  none
set_option maxRecDepth 100000 in
set_option maxHeartbeats 4000000 in
theorem w_L_k32 {p : Program} {l : Launch} {e : Env} {s : State} {m : MethodId} {args : Array Value} {below : List Frame} {meth : Method} {c : Code} {D : va_G} {ks : Nat → ClassId} {L : List Nat} {A : Nat → Prop} {b N : Nat} {xs : Nat → Int32} {o1 o2 o3 : Nat} {x4 : Int32} {h h' : mh_H} {H : Heap} {locs : List Loc} {ls : Array Slot} {cells slots : Nat} {Q : State → Prop} (cx : mh_C p m c cL_law 8 s args RL meth D ks A) (th : mh_Th l A s) (nc : mh_Nc s) (hS : va_X b N xs s s.heap ∧ b < s.heap.size ∧ ¬ A b) (hc : cells + 3 ≤ room_1.cells ∧ slots + 18 ≤ room_1.slots) (wd : mh_W D ks L A s.heap h H locs) (hl : lv_has ls 8 [(0, .ref b), (1, .ref o1), (2, .ref o2), (3, .ref o3), (4, .int x4)]) (hX : f_L_k32 xs N o1 o2 o3 x4 h = some h')
    (kk : ∀ H locs ls, mh_W D ks L A s.heap h' H locs → lv_has ls 8 [(0, .ref b), (1, .ref o1), (2, .ref o2), (3, .ref o3), (4, .int x4)] → W p l e room_1 s m args below meth c H locs (cells + 3) (slots + 18) Q (F0 m 2678 ls [])) : W p l e room_1 s m args below meth c H locs cells slots Q (F0 m 2246 ls []) := by
  have hx := cx.1.1
  have hb := cx.1.2.1
  unfold f_L_k32 at hX
  refine lv_aload_n hx hb dL_law_2246 rfl (lv_at hl 1 rfl) ?_
  refine lv_aload_n hx hb dL_law_2247 rfl (lv_at hl 0 rfl) ?_
  refine lv_iload hx hb dL_law_2248 (lv_at hl 4 rfl) ?_
  refine lv_iconst (v := 1) hx hb dL_law_2250 (by decide) ?_
  refine lv_iadd hx hb dL_law_2251 ?_
  refine mh_scl cx wd hS dL_law_2252 hX (fun v1 hX => ?_)
  refine lv_aload_n hx hb dL_law_2253 rfl (lv_at hl 0 rfl) ?_
  refine lv_iload hx hb dL_law_2254 (lv_at hl 4 rfl) ?_
  refine lv_iconst (v := 2) hx hb dL_law_2256 (by decide) ?_
  refine lv_iadd hx hb dL_law_2257 ?_
  refine mh_scl cx wd hS dL_law_2258 hX (fun v2 hX => ?_)
  refine lv_aload_n hx hb dL_law_2259 rfl (lv_at hl 0 rfl) ?_
  refine lv_iload hx hb dL_law_2260 (lv_at hl 4 rfl) ?_
  refine lv_iconst (v := 3) hx hb dL_law_2262 (by decide) ?_
  refine lv_iadd hx hb dL_law_2263 ?_
  refine mh_scl cx wd hS dL_law_2264 hX (fun v3 hX => ?_)
  refine lv_aload_n hx hb dL_law_2265 rfl (lv_at hl 3 rfl) ?_
  refine mh_wS cx th nc wd (K := 1) [.ref o1, .int v1, .int v2, .int v3, .ref o3] yx_L_fill sw_L_247 rfl hl.1 rfl (Nat.le_of_ble_eq_true rfl) dL_law_2266 ⟨Nat.le_of_ble_eq_true rfl, Nat.le_of_ble_eq_true rfl⟩ (mh_rq hc (k := 1) (j := 6) (Nat.le_of_ble_eq_true rfl) (Nat.le_of_ble_eq_true rfl)) (fun _ _ q => c_L_fill q) hX (fun v5 h4 H locs wd hX => ?_)
  refine lv_istore (lv' := [(5, .int v5), (0, .ref b), (1, .ref o1), (2, .ref o2), (3, .ref o3), (4, .int x4)]) hx hb dL_law_2269 hl (Nat.le_of_ble_eq_true rfl) rfl (fun ls hl => ?_)
  refine lv_aload_n hx hb dL_law_2271 rfl (lv_at hl 3 rfl) ?_
  refine lv_aload_n hx hb dL_law_2272 rfl (lv_at hl 1 rfl) ?_
  refine lv_iload hx hb dL_law_2273 (lv_at hl 5 rfl) ?_
  refine lv_iconst (v := 1) hx hb dL_law_2275 (by decide) ?_
  refine lv_iadd hx hb dL_law_2276 ?_
  refine mh_scl cx wd hS dL_law_2277 hX (fun v6 hX => ?_)
  refine lv_aload_n hx hb dL_law_2278 rfl (lv_at hl 1 rfl) ?_
  refine lv_iload hx hb dL_law_2279 (lv_at hl 5 rfl) ?_
  refine lv_iconst (v := 2) hx hb dL_law_2281 (by decide) ?_
  refine lv_iadd hx hb dL_law_2282 ?_
  refine mh_scl cx wd hS dL_law_2283 hX (fun v7 hX => ?_)
  refine lv_aload_n hx hb dL_law_2284 rfl (lv_at hl 1 rfl) ?_
  refine lv_iload hx hb dL_law_2285 (lv_at hl 5 rfl) ?_
  refine lv_iconst (v := 3) hx hb dL_law_2287 (by decide) ?_
  refine lv_iadd hx hb dL_law_2288 ?_
  refine mh_scl cx wd hS dL_law_2289 hX (fun v8 hX => ?_)
  refine mh_callVI cx wd [.int v6, .int v7, .int v8] (rfl : vwCl[12]? = some (RX12, TX12, 38)) yw_X12_fill vw_L_249 rfl hl.1 rfl (Nat.le_of_ble_eq_true rfl) dL_law_2290 ⟨Nat.le_of_ble_eq_true rfl, Nat.le_of_ble_eq_true rfl⟩ (mh_rq hc (k := 1) (j := 6) (Nat.le_of_ble_eq_true rfl) (Nat.le_of_ble_eq_true rfl)) (fun _ _ q => c_X12_fill q) hX (fun v10 h9 H locs wd hX => ?_)
  refine lv_istore (lv' := [(6, .int v10), (5, .int v5), (0, .ref b), (1, .ref o1), (2, .ref o2), (3, .ref o3), (4, .int x4)]) hx hb dL_law_2293 hl (Nat.le_of_ble_eq_true rfl) rfl (fun ls hl => ?_)
  refine lv_aload_n hx hb dL_law_2295 rfl (lv_at hl 4 rfl) ?_
  refine mh_callVI cx wd [] (rfl : vwCl[12]? = some (RX12, TX12, 38)) yw_X12_thrown vw_L_143 rfl hl.1 rfl (Nat.le_of_ble_eq_true rfl) dL_law_2296 ⟨Nat.le_of_ble_eq_true rfl, Nat.le_of_ble_eq_true rfl⟩ (mh_rq hc (k := 1) (j := 6) (Nat.le_of_ble_eq_true rfl) (Nat.le_of_ble_eq_true rfl)) (fun _ _ q => c_X12_thrown q) hX (fun v12 h11 H locs wd hX => ?_)
  refine lv_iload hx hb dL_law_2299 (lv_at hl 1 rfl) ?_
  refine lv_icmp_eq (tgt := 2306) hx hb dL_law_2301 rfl (fun hc => (fun hX => ?_) ((mh_if hX).1 hc)) (fun hc => (fun hX => ?_) ((mh_if hX).2 hc))
  · refine lv_iload hx hb dL_law_2306 (lv_at hl 1 rfl) ?_
    refine lv_if_ne (tgt := 2323) hx hb dL_law_2308 rfl (fun hc => (fun hX => ?_) ((mh_if hX).2 hc)) (fun hc => (fun hX => ?_) ((mh_if hX).1 hc))
    · refine lv_goto (tgt := 2678) hx hb dL_law_2323 rfl ?_
      cases hX
      refine W.widen (k := cells + 3) (n := slots + 18) (by omega) (by omega) ?_
      exact kk _ _ _ wd (lv_sub hl [2, 3, 4, 5, 6] rfl)
    · refine lv_aload_n hx hb dL_law_2311 rfl (lv_at hl 5 rfl) ?_
      refine lv_iconst (v := 0) hx hb dL_law_2312 (by decide) ?_
      refine mh_lald cx wd dL_law_2313 hX (fun w13 hX => ?_)
      refine lv_iload hx hb dL_law_2314 (lv_at hl 0 rfl) ?_
      refine lv_i2l hx hb dL_law_2316 rfl ?_
      refine W.lcmp hx hb dL_law_2317 ?_
      refine lv_if_eq (tgt := 2323) hx hb dL_law_2318 rfl (fun hc => (fun hX => ?_) ((mh_if hX).1 hc)) (fun hc => (fun hX => ?_) ((mh_if hX).2 hc))
      · refine lv_goto (tgt := 2678) hx hb dL_law_2323 rfl ?_
        cases hX
        refine W.widen (k := cells + 3) (n := slots + 18) (by omega) (by omega) ?_
        exact kk _ _ _ wd (lv_sub hl [2, 3, 4, 5, 6] rfl)
      · refine lv_iconst (v := 0) hx hb dL_law_2321 (by decide) ?_
        cases hX
  · refine lv_iconst (v := 0) hx hb dL_law_2304 (by decide) ?_
    cases hX
def f_L_k33 (xs : Nat → Int32) (N o1 o2 o3 : Nat) (x4 : Int32) (h : mh_H) : Option mh_H :=
  (mh_sc xs N (x4 + (1 : Int32))).bind fun v1 =>
  (mh_sc xs N (x4 + (2 : Int32))).bind fun v2 =>
  mh_b2 (f_L_has_e o1 v1 v2 o3 h) fun v4 h3 =>
  (mh_sc xs N (x4 + (1 : Int32))).bind fun v5 =>
  (mh_sc xs N (x4 + (2 : Int32))).bind fun v6 =>
  mh_b2 (mh_cal h3 o2 12 (f_X12_has_e o2 v5 v6 h3)) fun v8 h7 =>
  mh_b2 (mh_cal h7 o2 12 (f_X12_thrown_e o2 h7)) fun v10 h9 =>
  if v10 = v4 then (
  if v4 = 0 then (
  (mh_aJ h9 o3 (0 : Int32)).bind fun w11 =>
  if (lg_cmp w11 ((v8).toInt64)) = 0 then (
  some h9) else
  none) else
  some h9) else
  none
set_option maxRecDepth 100000 in
set_option maxHeartbeats 4000000 in
theorem w_L_k33 {p : Program} {l : Launch} {e : Env} {s : State} {m : MethodId} {args : Array Value} {below : List Frame} {meth : Method} {c : Code} {D : va_G} {ks : Nat → ClassId} {L : List Nat} {A : Nat → Prop} {b N : Nat} {xs : Nat → Int32} {o1 o2 o3 : Nat} {x4 : Int32} {h h' : mh_H} {H : Heap} {locs : List Loc} {ls : Array Slot} {cells slots : Nat} {Q : State → Prop} (cx : mh_C p m c cL_law 8 s args RL meth D ks A) (th : mh_Th l A s) (nc : mh_Nc s) (hS : va_X b N xs s s.heap ∧ b < s.heap.size ∧ ¬ A b) (hc : cells + 3 ≤ room_1.cells ∧ slots + 18 ≤ room_1.slots) (wd : mh_W D ks L A s.heap h H locs) (hl : lv_has ls 8 [(0, .ref b), (1, .ref o1), (2, .ref o2), (3, .ref o3), (4, .int x4)]) (hX : f_L_k33 xs N o1 o2 o3 x4 h = some h')
    (kk : ∀ H locs ls, mh_W D ks L A s.heap h' H locs → lv_has ls 8 [(0, .ref b), (1, .ref o1), (2, .ref o2), (3, .ref o3), (4, .int x4)] → W p l e room_1 s m args below meth c H locs (cells + 3) (slots + 18) Q (F0 m 2678 ls [])) : W p l e room_1 s m args below meth c H locs cells slots Q (F0 m 2326 ls []) := by
  have hx := cx.1.1
  have hb := cx.1.2.1
  unfold f_L_k33 at hX
  refine lv_aload_n hx hb dL_law_2326 rfl (lv_at hl 1 rfl) ?_
  refine lv_aload_n hx hb dL_law_2327 rfl (lv_at hl 0 rfl) ?_
  refine lv_iload hx hb dL_law_2328 (lv_at hl 4 rfl) ?_
  refine lv_iconst (v := 1) hx hb dL_law_2330 (by decide) ?_
  refine lv_iadd hx hb dL_law_2331 ?_
  refine mh_scl cx wd hS dL_law_2332 hX (fun v1 hX => ?_)
  refine lv_aload_n hx hb dL_law_2333 rfl (lv_at hl 0 rfl) ?_
  refine lv_iload hx hb dL_law_2334 (lv_at hl 4 rfl) ?_
  refine lv_iconst (v := 2) hx hb dL_law_2336 (by decide) ?_
  refine lv_iadd hx hb dL_law_2337 ?_
  refine mh_scl cx wd hS dL_law_2338 hX (fun v2 hX => ?_)
  refine lv_aload_n hx hb dL_law_2339 rfl (lv_at hl 3 rfl) ?_
  refine mh_wS cx th nc wd (K := 2) [.ref o1, .int v1, .int v2, .ref o3] yx_L_has sw_L_250 rfl hl.1 rfl (Nat.le_of_ble_eq_true rfl) dL_law_2340 ⟨Nat.le_of_ble_eq_true rfl, Nat.le_of_ble_eq_true rfl⟩ (mh_rq hc (k := 2) (j := 12) (Nat.le_of_ble_eq_true rfl) (Nat.le_of_ble_eq_true rfl)) (fun _ _ q => c_L_has q) hX (fun v4 h3 H locs wd hX => ?_)
  refine lv_istore (lv' := [(5, .int v4), (0, .ref b), (1, .ref o1), (2, .ref o2), (3, .ref o3), (4, .int x4)]) hx hb dL_law_2343 hl (Nat.le_of_ble_eq_true rfl) rfl (fun ls hl => ?_)
  refine lv_aload_n hx hb dL_law_2345 rfl (lv_at hl 3 rfl) ?_
  refine lv_aload_n hx hb dL_law_2346 rfl (lv_at hl 1 rfl) ?_
  refine lv_iload hx hb dL_law_2347 (lv_at hl 5 rfl) ?_
  refine lv_iconst (v := 1) hx hb dL_law_2349 (by decide) ?_
  refine lv_iadd hx hb dL_law_2350 ?_
  refine mh_scl cx wd hS dL_law_2351 hX (fun v5 hX => ?_)
  refine lv_aload_n hx hb dL_law_2352 rfl (lv_at hl 1 rfl) ?_
  refine lv_iload hx hb dL_law_2353 (lv_at hl 5 rfl) ?_
  refine lv_iconst (v := 2) hx hb dL_law_2355 (by decide) ?_
  refine lv_iadd hx hb dL_law_2356 ?_
  refine mh_scl cx wd hS dL_law_2357 hX (fun v6 hX => ?_)
  refine mh_callVI cx wd [.int v5, .int v6] (rfl : vwCl[12]? = some (RX12, TX12, 38)) yw_X12_has vw_L_252 rfl hl.1 rfl (Nat.le_of_ble_eq_true rfl) dL_law_2358 ⟨Nat.le_of_ble_eq_true rfl, Nat.le_of_ble_eq_true rfl⟩ (mh_rq hc (k := 2) (j := 12) (Nat.le_of_ble_eq_true rfl) (Nat.le_of_ble_eq_true rfl)) (fun _ _ q => c_X12_has q) hX (fun v8 h7 H locs wd hX => ?_)
  refine lv_istore (lv' := [(6, .int v8), (5, .int v4), (0, .ref b), (1, .ref o1), (2, .ref o2), (3, .ref o3), (4, .int x4)]) hx hb dL_law_2361 hl (Nat.le_of_ble_eq_true rfl) rfl (fun ls hl => ?_)
  refine lv_aload_n hx hb dL_law_2363 rfl (lv_at hl 4 rfl) ?_
  refine mh_callVI cx wd [] (rfl : vwCl[12]? = some (RX12, TX12, 38)) yw_X12_thrown vw_L_143 rfl hl.1 rfl (Nat.le_of_ble_eq_true rfl) dL_law_2364 ⟨Nat.le_of_ble_eq_true rfl, Nat.le_of_ble_eq_true rfl⟩ (mh_rq hc (k := 2) (j := 12) (Nat.le_of_ble_eq_true rfl) (Nat.le_of_ble_eq_true rfl)) (fun _ _ q => c_X12_thrown q) hX (fun v10 h9 H locs wd hX => ?_)
  refine lv_iload hx hb dL_law_2367 (lv_at hl 1 rfl) ?_
  refine lv_icmp_eq (tgt := 2374) hx hb dL_law_2369 rfl (fun hc => (fun hX => ?_) ((mh_if hX).1 hc)) (fun hc => (fun hX => ?_) ((mh_if hX).2 hc))
  · refine lv_iload hx hb dL_law_2374 (lv_at hl 1 rfl) ?_
    refine lv_if_ne (tgt := 2391) hx hb dL_law_2376 rfl (fun hc => (fun hX => ?_) ((mh_if hX).2 hc)) (fun hc => (fun hX => ?_) ((mh_if hX).1 hc))
    · refine lv_goto (tgt := 2678) hx hb dL_law_2391 rfl ?_
      cases hX
      refine W.widen (k := cells + 3) (n := slots + 18) (by omega) (by omega) ?_
      exact kk _ _ _ wd (lv_sub hl [2, 3, 4, 5, 6] rfl)
    · refine lv_aload_n hx hb dL_law_2379 rfl (lv_at hl 5 rfl) ?_
      refine lv_iconst (v := 0) hx hb dL_law_2380 (by decide) ?_
      refine mh_lald cx wd dL_law_2381 hX (fun w11 hX => ?_)
      refine lv_iload hx hb dL_law_2382 (lv_at hl 0 rfl) ?_
      refine lv_i2l hx hb dL_law_2384 rfl ?_
      refine W.lcmp hx hb dL_law_2385 ?_
      refine lv_if_eq (tgt := 2391) hx hb dL_law_2386 rfl (fun hc => (fun hX => ?_) ((mh_if hX).1 hc)) (fun hc => (fun hX => ?_) ((mh_if hX).2 hc))
      · refine lv_goto (tgt := 2678) hx hb dL_law_2391 rfl ?_
        cases hX
        refine W.widen (k := cells + 3) (n := slots + 18) (by omega) (by omega) ?_
        exact kk _ _ _ wd (lv_sub hl [2, 3, 4, 5, 6] rfl)
      · refine lv_iconst (v := 0) hx hb dL_law_2389 (by decide) ?_
        cases hX
  · refine lv_iconst (v := 0) hx hb dL_law_2372 (by decide) ?_
    cases hX
def f_L_k34 (xs : Nat → Int32) (N o1 o2 o3 : Nat) (x4 : Int32) (h : mh_H) : Option mh_H :=
  (mh_sc xs N (x4 + (1 : Int32))).bind fun v1 =>
  (mh_sc xs N (x4 + (2 : Int32))).bind fun v2 =>
  mh_b2 (f_L_pays_e o1 v1 v2 o3 h) fun v4 h3 =>
  (mh_sc xs N (x4 + (1 : Int32))).bind fun v5 =>
  (mh_sc xs N (x4 + (2 : Int32))).bind fun v6 =>
  mh_b2 (mh_cal h3 o2 12 (f_X12_pays_e o2 v5 v6 h3)) fun v8 h7 =>
  mh_b2 (mh_cal h7 o2 12 (f_X12_thrown_e o2 h7)) fun v10 h9 =>
  if v10 = v4 then (
  if v4 = 0 then (
  (mh_aJ h9 o3 (0 : Int32)).bind fun w11 =>
  if (lg_cmp w11 ((v8).toInt64)) = 0 then (
  some h9) else
  none) else
  some h9) else
  none
set_option maxRecDepth 100000 in
set_option maxHeartbeats 4000000 in
theorem w_L_k34 {p : Program} {l : Launch} {e : Env} {s : State} {m : MethodId} {args : Array Value} {below : List Frame} {meth : Method} {c : Code} {D : va_G} {ks : Nat → ClassId} {L : List Nat} {A : Nat → Prop} {b N : Nat} {xs : Nat → Int32} {o1 o2 o3 : Nat} {x4 : Int32} {h h' : mh_H} {H : Heap} {locs : List Loc} {ls : Array Slot} {cells slots : Nat} {Q : State → Prop} (cx : mh_C p m c cL_law 8 s args RL meth D ks A) (th : mh_Th l A s) (nc : mh_Nc s) (hS : va_X b N xs s s.heap ∧ b < s.heap.size ∧ ¬ A b) (hc : cells + 3 ≤ room_1.cells ∧ slots + 18 ≤ room_1.slots) (wd : mh_W D ks L A s.heap h H locs) (hl : lv_has ls 8 [(0, .ref b), (1, .ref o1), (2, .ref o2), (3, .ref o3), (4, .int x4)]) (hX : f_L_k34 xs N o1 o2 o3 x4 h = some h')
    (kk : ∀ H locs ls, mh_W D ks L A s.heap h' H locs → lv_has ls 8 [(0, .ref b), (1, .ref o1), (2, .ref o2), (3, .ref o3), (4, .int x4)] → W p l e room_1 s m args below meth c H locs (cells + 3) (slots + 18) Q (F0 m 2678 ls [])) : W p l e room_1 s m args below meth c H locs cells slots Q (F0 m 2394 ls []) := by
  have hx := cx.1.1
  have hb := cx.1.2.1
  unfold f_L_k34 at hX
  refine lv_aload_n hx hb dL_law_2394 rfl (lv_at hl 1 rfl) ?_
  refine lv_aload_n hx hb dL_law_2395 rfl (lv_at hl 0 rfl) ?_
  refine lv_iload hx hb dL_law_2396 (lv_at hl 4 rfl) ?_
  refine lv_iconst (v := 1) hx hb dL_law_2398 (by decide) ?_
  refine lv_iadd hx hb dL_law_2399 ?_
  refine mh_scl cx wd hS dL_law_2400 hX (fun v1 hX => ?_)
  refine lv_aload_n hx hb dL_law_2401 rfl (lv_at hl 0 rfl) ?_
  refine lv_iload hx hb dL_law_2402 (lv_at hl 4 rfl) ?_
  refine lv_iconst (v := 2) hx hb dL_law_2404 (by decide) ?_
  refine lv_iadd hx hb dL_law_2405 ?_
  refine mh_scl cx wd hS dL_law_2406 hX (fun v2 hX => ?_)
  refine lv_aload_n hx hb dL_law_2407 rfl (lv_at hl 3 rfl) ?_
  refine mh_wS cx th nc wd (K := 1) [.ref o1, .int v1, .int v2, .ref o3] yx_L_pays sw_L_253 rfl hl.1 rfl (Nat.le_of_ble_eq_true rfl) dL_law_2408 ⟨Nat.le_of_ble_eq_true rfl, Nat.le_of_ble_eq_true rfl⟩ (mh_rq hc (k := 1) (j := 6) (Nat.le_of_ble_eq_true rfl) (Nat.le_of_ble_eq_true rfl)) (fun _ _ q => c_L_pays q) hX (fun v4 h3 H locs wd hX => ?_)
  refine lv_istore (lv' := [(5, .int v4), (0, .ref b), (1, .ref o1), (2, .ref o2), (3, .ref o3), (4, .int x4)]) hx hb dL_law_2411 hl (Nat.le_of_ble_eq_true rfl) rfl (fun ls hl => ?_)
  refine lv_aload_n hx hb dL_law_2413 rfl (lv_at hl 3 rfl) ?_
  refine lv_aload_n hx hb dL_law_2414 rfl (lv_at hl 1 rfl) ?_
  refine lv_iload hx hb dL_law_2415 (lv_at hl 5 rfl) ?_
  refine lv_iconst (v := 1) hx hb dL_law_2417 (by decide) ?_
  refine lv_iadd hx hb dL_law_2418 ?_
  refine mh_scl cx wd hS dL_law_2419 hX (fun v5 hX => ?_)
  refine lv_aload_n hx hb dL_law_2420 rfl (lv_at hl 1 rfl) ?_
  refine lv_iload hx hb dL_law_2421 (lv_at hl 5 rfl) ?_
  refine lv_iconst (v := 2) hx hb dL_law_2423 (by decide) ?_
  refine lv_iadd hx hb dL_law_2424 ?_
  refine mh_scl cx wd hS dL_law_2425 hX (fun v6 hX => ?_)
  refine mh_callVI cx wd [.int v5, .int v6] (rfl : vwCl[12]? = some (RX12, TX12, 38)) yw_X12_pays vw_L_255 rfl hl.1 rfl (Nat.le_of_ble_eq_true rfl) dL_law_2426 ⟨Nat.le_of_ble_eq_true rfl, Nat.le_of_ble_eq_true rfl⟩ (mh_rq hc (k := 1) (j := 6) (Nat.le_of_ble_eq_true rfl) (Nat.le_of_ble_eq_true rfl)) (fun _ _ q => c_X12_pays q) hX (fun v8 h7 H locs wd hX => ?_)
  refine lv_istore (lv' := [(6, .int v8), (5, .int v4), (0, .ref b), (1, .ref o1), (2, .ref o2), (3, .ref o3), (4, .int x4)]) hx hb dL_law_2429 hl (Nat.le_of_ble_eq_true rfl) rfl (fun ls hl => ?_)
  refine lv_aload_n hx hb dL_law_2431 rfl (lv_at hl 4 rfl) ?_
  refine mh_callVI cx wd [] (rfl : vwCl[12]? = some (RX12, TX12, 38)) yw_X12_thrown vw_L_143 rfl hl.1 rfl (Nat.le_of_ble_eq_true rfl) dL_law_2432 ⟨Nat.le_of_ble_eq_true rfl, Nat.le_of_ble_eq_true rfl⟩ (mh_rq hc (k := 1) (j := 6) (Nat.le_of_ble_eq_true rfl) (Nat.le_of_ble_eq_true rfl)) (fun _ _ q => c_X12_thrown q) hX (fun v10 h9 H locs wd hX => ?_)
  refine lv_iload hx hb dL_law_2435 (lv_at hl 1 rfl) ?_
  refine lv_icmp_eq (tgt := 2442) hx hb dL_law_2437 rfl (fun hc => (fun hX => ?_) ((mh_if hX).1 hc)) (fun hc => (fun hX => ?_) ((mh_if hX).2 hc))
  · refine lv_iload hx hb dL_law_2442 (lv_at hl 1 rfl) ?_
    refine lv_if_ne (tgt := 2459) hx hb dL_law_2444 rfl (fun hc => (fun hX => ?_) ((mh_if hX).2 hc)) (fun hc => (fun hX => ?_) ((mh_if hX).1 hc))
    · refine lv_goto (tgt := 2678) hx hb dL_law_2459 rfl ?_
      cases hX
      refine W.widen (k := cells + 3) (n := slots + 18) (by omega) (by omega) ?_
      exact kk _ _ _ wd (lv_sub hl [2, 3, 4, 5, 6] rfl)
    · refine lv_aload_n hx hb dL_law_2447 rfl (lv_at hl 5 rfl) ?_
      refine lv_iconst (v := 0) hx hb dL_law_2448 (by decide) ?_
      refine mh_lald cx wd dL_law_2449 hX (fun w11 hX => ?_)
      refine lv_iload hx hb dL_law_2450 (lv_at hl 0 rfl) ?_
      refine lv_i2l hx hb dL_law_2452 rfl ?_
      refine W.lcmp hx hb dL_law_2453 ?_
      refine lv_if_eq (tgt := 2459) hx hb dL_law_2454 rfl (fun hc => (fun hX => ?_) ((mh_if hX).1 hc)) (fun hc => (fun hX => ?_) ((mh_if hX).2 hc))
      · refine lv_goto (tgt := 2678) hx hb dL_law_2459 rfl ?_
        cases hX
        refine W.widen (k := cells + 3) (n := slots + 18) (by omega) (by omega) ?_
        exact kk _ _ _ wd (lv_sub hl [2, 3, 4, 5, 6] rfl)
      · refine lv_iconst (v := 0) hx hb dL_law_2457 (by decide) ?_
        cases hX
  · refine lv_iconst (v := 0) hx hb dL_law_2440 (by decide) ?_
    cases hX
def f_L_k35 (xs : Nat → Int32) (N o1 o2 o3 : Nat) (x4 : Int32) (h : mh_H) : Option mh_H :=
  (mh_sc xs N (x4 + (1 : Int32))).bind fun v1 =>
  mh_b2 (f_L_holes_e o1 v1 o3 h) fun v3 h2 =>
  (mh_sc xs N (x4 + (1 : Int32))).bind fun v4 =>
  mh_b2 (mh_cal h2 o2 12 (f_X12_holes_e o2 v4 h2)) fun v6 h5 =>
  mh_b2 (mh_cal h5 o2 12 (f_X12_thrown_e o2 h5)) fun v8 h7 =>
  if v8 = v3 then (
  if v3 = 0 then (
  (mh_aJ h7 o3 (0 : Int32)).bind fun w9 =>
  if (lg_cmp w9 ((v6).toInt64)) = 0 then (
  some h7) else
  none) else
  some h7) else
  none
set_option maxRecDepth 100000 in
set_option maxHeartbeats 4000000 in
theorem w_L_k35 {p : Program} {l : Launch} {e : Env} {s : State} {m : MethodId} {args : Array Value} {below : List Frame} {meth : Method} {c : Code} {D : va_G} {ks : Nat → ClassId} {L : List Nat} {A : Nat → Prop} {b N : Nat} {xs : Nat → Int32} {o1 o2 o3 : Nat} {x4 : Int32} {h h' : mh_H} {H : Heap} {locs : List Loc} {ls : Array Slot} {cells slots : Nat} {Q : State → Prop} (cx : mh_C p m c cL_law 8 s args RL meth D ks A) (th : mh_Th l A s) (nc : mh_Nc s) (hS : va_X b N xs s s.heap ∧ b < s.heap.size ∧ ¬ A b) (hc : cells + 3 ≤ room_1.cells ∧ slots + 18 ≤ room_1.slots) (wd : mh_W D ks L A s.heap h H locs) (hl : lv_has ls 8 [(0, .ref b), (1, .ref o1), (2, .ref o2), (3, .ref o3), (4, .int x4)]) (hX : f_L_k35 xs N o1 o2 o3 x4 h = some h')
    (kk : ∀ H locs ls, mh_W D ks L A s.heap h' H locs → lv_has ls 8 [(0, .ref b), (1, .ref o1), (2, .ref o2), (3, .ref o3), (4, .int x4)] → W p l e room_1 s m args below meth c H locs (cells + 3) (slots + 18) Q (F0 m 2678 ls [])) : W p l e room_1 s m args below meth c H locs cells slots Q (F0 m 2462 ls []) := by
  have hx := cx.1.1
  have hb := cx.1.2.1
  unfold f_L_k35 at hX
  refine lv_aload_n hx hb dL_law_2462 rfl (lv_at hl 1 rfl) ?_
  refine lv_aload_n hx hb dL_law_2463 rfl (lv_at hl 0 rfl) ?_
  refine lv_iload hx hb dL_law_2464 (lv_at hl 4 rfl) ?_
  refine lv_iconst (v := 1) hx hb dL_law_2466 (by decide) ?_
  refine lv_iadd hx hb dL_law_2467 ?_
  refine mh_scl cx wd hS dL_law_2468 hX (fun v1 hX => ?_)
  refine lv_aload_n hx hb dL_law_2469 rfl (lv_at hl 3 rfl) ?_
  refine mh_wS cx th nc wd (K := 1) [.ref o1, .int v1, .ref o3] yx_L_holes sw_L_256 rfl hl.1 rfl (Nat.le_of_ble_eq_true rfl) dL_law_2470 ⟨Nat.le_of_ble_eq_true rfl, Nat.le_of_ble_eq_true rfl⟩ (mh_rq hc (k := 1) (j := 6) (Nat.le_of_ble_eq_true rfl) (Nat.le_of_ble_eq_true rfl)) (fun _ _ q => c_L_holes q) hX (fun v3 h2 H locs wd hX => ?_)
  refine lv_istore (lv' := [(5, .int v3), (0, .ref b), (1, .ref o1), (2, .ref o2), (3, .ref o3), (4, .int x4)]) hx hb dL_law_2473 hl (Nat.le_of_ble_eq_true rfl) rfl (fun ls hl => ?_)
  refine lv_aload_n hx hb dL_law_2475 rfl (lv_at hl 3 rfl) ?_
  refine lv_aload_n hx hb dL_law_2476 rfl (lv_at hl 1 rfl) ?_
  refine lv_iload hx hb dL_law_2477 (lv_at hl 5 rfl) ?_
  refine lv_iconst (v := 1) hx hb dL_law_2479 (by decide) ?_
  refine lv_iadd hx hb dL_law_2480 ?_
  refine mh_scl cx wd hS dL_law_2481 hX (fun v4 hX => ?_)
  refine mh_callVI cx wd [.int v4] (rfl : vwCl[12]? = some (RX12, TX12, 38)) yw_X12_holes vw_L_258 rfl hl.1 rfl (Nat.le_of_ble_eq_true rfl) dL_law_2482 ⟨Nat.le_of_ble_eq_true rfl, Nat.le_of_ble_eq_true rfl⟩ (mh_rq hc (k := 1) (j := 6) (Nat.le_of_ble_eq_true rfl) (Nat.le_of_ble_eq_true rfl)) (fun _ _ q => c_X12_holes q) hX (fun v6 h5 H locs wd hX => ?_)
  refine lv_istore (lv' := [(6, .int v6), (5, .int v3), (0, .ref b), (1, .ref o1), (2, .ref o2), (3, .ref o3), (4, .int x4)]) hx hb dL_law_2485 hl (Nat.le_of_ble_eq_true rfl) rfl (fun ls hl => ?_)
  refine lv_aload_n hx hb dL_law_2487 rfl (lv_at hl 4 rfl) ?_
  refine mh_callVI cx wd [] (rfl : vwCl[12]? = some (RX12, TX12, 38)) yw_X12_thrown vw_L_143 rfl hl.1 rfl (Nat.le_of_ble_eq_true rfl) dL_law_2488 ⟨Nat.le_of_ble_eq_true rfl, Nat.le_of_ble_eq_true rfl⟩ (mh_rq hc (k := 1) (j := 6) (Nat.le_of_ble_eq_true rfl) (Nat.le_of_ble_eq_true rfl)) (fun _ _ q => c_X12_thrown q) hX (fun v8 h7 H locs wd hX => ?_)
  refine lv_iload hx hb dL_law_2491 (lv_at hl 1 rfl) ?_
  refine lv_icmp_eq (tgt := 2498) hx hb dL_law_2493 rfl (fun hc => (fun hX => ?_) ((mh_if hX).1 hc)) (fun hc => (fun hX => ?_) ((mh_if hX).2 hc))
  · refine lv_iload hx hb dL_law_2498 (lv_at hl 1 rfl) ?_
    refine lv_if_ne (tgt := 2515) hx hb dL_law_2500 rfl (fun hc => (fun hX => ?_) ((mh_if hX).2 hc)) (fun hc => (fun hX => ?_) ((mh_if hX).1 hc))
    · refine lv_goto (tgt := 2678) hx hb dL_law_2515 rfl ?_
      cases hX
      refine W.widen (k := cells + 3) (n := slots + 18) (by omega) (by omega) ?_
      exact kk _ _ _ wd (lv_sub hl [2, 3, 4, 5, 6] rfl)
    · refine lv_aload_n hx hb dL_law_2503 rfl (lv_at hl 5 rfl) ?_
      refine lv_iconst (v := 0) hx hb dL_law_2504 (by decide) ?_
      refine mh_lald cx wd dL_law_2505 hX (fun w9 hX => ?_)
      refine lv_iload hx hb dL_law_2506 (lv_at hl 0 rfl) ?_
      refine lv_i2l hx hb dL_law_2508 rfl ?_
      refine W.lcmp hx hb dL_law_2509 ?_
      refine lv_if_eq (tgt := 2515) hx hb dL_law_2510 rfl (fun hc => (fun hX => ?_) ((mh_if hX).1 hc)) (fun hc => (fun hX => ?_) ((mh_if hX).2 hc))
      · refine lv_goto (tgt := 2678) hx hb dL_law_2515 rfl ?_
        cases hX
        refine W.widen (k := cells + 3) (n := slots + 18) (by omega) (by omega) ?_
        exact kk _ _ _ wd (lv_sub hl [2, 3, 4, 5, 6] rfl)
      · refine lv_iconst (v := 0) hx hb dL_law_2513 (by decide) ?_
        cases hX
  · refine lv_iconst (v := 0) hx hb dL_law_2496 (by decide) ?_
    cases hX
def f_L_k36 (xs : Nat → Int32) (N o1 o2 o3 : Nat) (x4 : Int32) (h : mh_H) : Option mh_H :=
  (mh_sc xs N (x4 + (1 : Int32))).bind fun v1 =>
  (mh_sc xs N (x4 + (2 : Int32))).bind fun v2 =>
  (mh_sc xs N (x4 + (3 : Int32))).bind fun v3 =>
  mh_b2 (f_L_change_e o1 v1 v2 v3 o3 h) fun v5 h4 =>
  (mh_sc xs N (x4 + (1 : Int32))).bind fun v6 =>
  (mh_sc xs N (x4 + (2 : Int32))).bind fun v7 =>
  (mh_sc xs N (x4 + (3 : Int32))).bind fun v8 =>
  mh_b2 (mh_cal h4 o2 12 (f_X12_change_e o2 v6 v7 v8 h4)) fun v10 h9 =>
  mh_b2 (mh_cal h9 o2 12 (f_X12_thrown_e o2 h9)) fun v12 h11 =>
  if v12 = v5 then (
  if v5 = 0 then (
  (mh_aJ h11 o3 (0 : Int32)).bind fun w13 =>
  if (lg_cmp w13 ((v10).toInt64)) = 0 then (
  some h11) else
  none) else
  some h11) else
  none
set_option maxRecDepth 100000 in
set_option maxHeartbeats 4000000 in
theorem w_L_k36 {p : Program} {l : Launch} {e : Env} {s : State} {m : MethodId} {args : Array Value} {below : List Frame} {meth : Method} {c : Code} {D : va_G} {ks : Nat → ClassId} {L : List Nat} {A : Nat → Prop} {b N : Nat} {xs : Nat → Int32} {o1 o2 o3 : Nat} {x4 : Int32} {h h' : mh_H} {H : Heap} {locs : List Loc} {ls : Array Slot} {cells slots : Nat} {Q : State → Prop} (cx : mh_C p m c cL_law 8 s args RL meth D ks A) (th : mh_Th l A s) (nc : mh_Nc s) (hS : va_X b N xs s s.heap ∧ b < s.heap.size ∧ ¬ A b) (hc : cells + 3 ≤ room_1.cells ∧ slots + 18 ≤ room_1.slots) (wd : mh_W D ks L A s.heap h H locs) (hl : lv_has ls 8 [(0, .ref b), (1, .ref o1), (2, .ref o2), (3, .ref o3), (4, .int x4)]) (hX : f_L_k36 xs N o1 o2 o3 x4 h = some h')
    (kk : ∀ H locs ls, mh_W D ks L A s.heap h' H locs → lv_has ls 8 [(0, .ref b), (1, .ref o1), (2, .ref o2), (3, .ref o3), (4, .int x4)] → W p l e room_1 s m args below meth c H locs (cells + 3) (slots + 18) Q (F0 m 2678 ls [])) : W p l e room_1 s m args below meth c H locs cells slots Q (F0 m 2518 ls []) := by
  have hx := cx.1.1
  have hb := cx.1.2.1
  unfold f_L_k36 at hX
  refine lv_aload_n hx hb dL_law_2518 rfl (lv_at hl 1 rfl) ?_
  refine lv_aload_n hx hb dL_law_2519 rfl (lv_at hl 0 rfl) ?_
  refine lv_iload hx hb dL_law_2520 (lv_at hl 4 rfl) ?_
  refine lv_iconst (v := 1) hx hb dL_law_2522 (by decide) ?_
  refine lv_iadd hx hb dL_law_2523 ?_
  refine mh_scl cx wd hS dL_law_2524 hX (fun v1 hX => ?_)
  refine lv_aload_n hx hb dL_law_2525 rfl (lv_at hl 0 rfl) ?_
  refine lv_iload hx hb dL_law_2526 (lv_at hl 4 rfl) ?_
  refine lv_iconst (v := 2) hx hb dL_law_2528 (by decide) ?_
  refine lv_iadd hx hb dL_law_2529 ?_
  refine mh_scl cx wd hS dL_law_2530 hX (fun v2 hX => ?_)
  refine lv_aload_n hx hb dL_law_2531 rfl (lv_at hl 0 rfl) ?_
  refine lv_iload hx hb dL_law_2532 (lv_at hl 4 rfl) ?_
  refine lv_iconst (v := 3) hx hb dL_law_2534 (by decide) ?_
  refine lv_iadd hx hb dL_law_2535 ?_
  refine mh_scl cx wd hS dL_law_2536 hX (fun v3 hX => ?_)
  refine lv_aload_n hx hb dL_law_2537 rfl (lv_at hl 3 rfl) ?_
  refine mh_wS cx th nc wd (K := 3) [.ref o1, .int v1, .int v2, .int v3, .ref o3] yx_L_change sw_L_259 rfl hl.1 rfl (Nat.le_of_ble_eq_true rfl) dL_law_2538 ⟨Nat.le_of_ble_eq_true rfl, Nat.le_of_ble_eq_true rfl⟩ (mh_rq hc (k := 3) (j := 18) (Nat.le_of_ble_eq_true rfl) (Nat.le_of_ble_eq_true rfl)) (fun _ _ q => c_L_change q) hX (fun v5 h4 H locs wd hX => ?_)
  refine lv_istore (lv' := [(5, .int v5), (0, .ref b), (1, .ref o1), (2, .ref o2), (3, .ref o3), (4, .int x4)]) hx hb dL_law_2541 hl (Nat.le_of_ble_eq_true rfl) rfl (fun ls hl => ?_)
  refine lv_aload_n hx hb dL_law_2543 rfl (lv_at hl 3 rfl) ?_
  refine lv_aload_n hx hb dL_law_2544 rfl (lv_at hl 1 rfl) ?_
  refine lv_iload hx hb dL_law_2545 (lv_at hl 5 rfl) ?_
  refine lv_iconst (v := 1) hx hb dL_law_2547 (by decide) ?_
  refine lv_iadd hx hb dL_law_2548 ?_
  refine mh_scl cx wd hS dL_law_2549 hX (fun v6 hX => ?_)
  refine lv_aload_n hx hb dL_law_2550 rfl (lv_at hl 1 rfl) ?_
  refine lv_iload hx hb dL_law_2551 (lv_at hl 5 rfl) ?_
  refine lv_iconst (v := 2) hx hb dL_law_2553 (by decide) ?_
  refine lv_iadd hx hb dL_law_2554 ?_
  refine mh_scl cx wd hS dL_law_2555 hX (fun v7 hX => ?_)
  refine lv_aload_n hx hb dL_law_2556 rfl (lv_at hl 1 rfl) ?_
  refine lv_iload hx hb dL_law_2557 (lv_at hl 5 rfl) ?_
  refine lv_iconst (v := 3) hx hb dL_law_2559 (by decide) ?_
  refine lv_iadd hx hb dL_law_2560 ?_
  refine mh_scl cx wd hS dL_law_2561 hX (fun v8 hX => ?_)
  refine mh_callVI cx wd [.int v6, .int v7, .int v8] (rfl : vwCl[12]? = some (RX12, TX12, 38)) yw_X12_change vw_L_261 rfl hl.1 rfl (Nat.le_of_ble_eq_true rfl) dL_law_2562 ⟨Nat.le_of_ble_eq_true rfl, Nat.le_of_ble_eq_true rfl⟩ (mh_rq hc (k := 3) (j := 18) (Nat.le_of_ble_eq_true rfl) (Nat.le_of_ble_eq_true rfl)) (fun _ _ q => c_X12_change q) hX (fun v10 h9 H locs wd hX => ?_)
  refine lv_istore (lv' := [(6, .int v10), (5, .int v5), (0, .ref b), (1, .ref o1), (2, .ref o2), (3, .ref o3), (4, .int x4)]) hx hb dL_law_2565 hl (Nat.le_of_ble_eq_true rfl) rfl (fun ls hl => ?_)
  refine lv_aload_n hx hb dL_law_2567 rfl (lv_at hl 4 rfl) ?_
  refine mh_callVI cx wd [] (rfl : vwCl[12]? = some (RX12, TX12, 38)) yw_X12_thrown vw_L_143 rfl hl.1 rfl (Nat.le_of_ble_eq_true rfl) dL_law_2568 ⟨Nat.le_of_ble_eq_true rfl, Nat.le_of_ble_eq_true rfl⟩ (mh_rq hc (k := 3) (j := 18) (Nat.le_of_ble_eq_true rfl) (Nat.le_of_ble_eq_true rfl)) (fun _ _ q => c_X12_thrown q) hX (fun v12 h11 H locs wd hX => ?_)
  refine lv_iload hx hb dL_law_2571 (lv_at hl 1 rfl) ?_
  refine lv_icmp_eq (tgt := 2578) hx hb dL_law_2573 rfl (fun hc => (fun hX => ?_) ((mh_if hX).1 hc)) (fun hc => (fun hX => ?_) ((mh_if hX).2 hc))
  · refine lv_iload hx hb dL_law_2578 (lv_at hl 1 rfl) ?_
    refine lv_if_ne (tgt := 2595) hx hb dL_law_2580 rfl (fun hc => (fun hX => ?_) ((mh_if hX).2 hc)) (fun hc => (fun hX => ?_) ((mh_if hX).1 hc))
    · refine lv_goto (tgt := 2678) hx hb dL_law_2595 rfl ?_
      cases hX
      refine W.widen (k := cells + 3) (n := slots + 18) (by omega) (by omega) ?_
      exact kk _ _ _ wd (lv_sub hl [2, 3, 4, 5, 6] rfl)
    · refine lv_aload_n hx hb dL_law_2583 rfl (lv_at hl 5 rfl) ?_
      refine lv_iconst (v := 0) hx hb dL_law_2584 (by decide) ?_
      refine mh_lald cx wd dL_law_2585 hX (fun w13 hX => ?_)
      refine lv_iload hx hb dL_law_2586 (lv_at hl 0 rfl) ?_
      refine lv_i2l hx hb dL_law_2588 rfl ?_
      refine W.lcmp hx hb dL_law_2589 ?_
      refine lv_if_eq (tgt := 2595) hx hb dL_law_2590 rfl (fun hc => (fun hX => ?_) ((mh_if hX).1 hc)) (fun hc => (fun hX => ?_) ((mh_if hX).2 hc))
      · refine lv_goto (tgt := 2678) hx hb dL_law_2595 rfl ?_
        cases hX
        refine W.widen (k := cells + 3) (n := slots + 18) (by omega) (by omega) ?_
        exact kk _ _ _ wd (lv_sub hl [2, 3, 4, 5, 6] rfl)
      · refine lv_iconst (v := 0) hx hb dL_law_2593 (by decide) ?_
        cases hX
  · refine lv_iconst (v := 0) hx hb dL_law_2576 (by decide) ?_
    cases hX
def f_L_k37 (xs : Nat → Int32) (N o1 o2 o3 : Nat) (x4 : Int32) (h : mh_H) : Option mh_H :=
  (mh_sc xs N (x4 + (1 : Int32))).bind fun v1 =>
  (mh_sc xs N (x4 + (2 : Int32))).bind fun v2 =>
  (mh_sc xs N (x4 + (3 : Int32))).bind fun v3 =>
  mh_b2 (f_L_deal_e o1 v1 v2 v3 o3 h) fun v5 h4 =>
  (mh_sc xs N (x4 + (1 : Int32))).bind fun v6 =>
  (mh_sc xs N (x4 + (2 : Int32))).bind fun v7 =>
  (mh_sc xs N (x4 + (3 : Int32))).bind fun v8 =>
  mh_b2 (mh_cal h4 o2 12 (f_X12_deal_e o2 v6 v7 v8 h4)) fun v10 h9 =>
  mh_b2 (mh_cal h9 o2 12 (f_X12_thrown_e o2 h9)) fun v12 h11 =>
  if v12 = v5 then (
  if v5 = 0 then (
  (mh_aJ h11 o3 (0 : Int32)).bind fun w13 =>
  if (lg_cmp w13 ((v10).toInt64)) = 0 then (
  some h11) else
  none) else
  some h11) else
  none
set_option maxRecDepth 100000 in
set_option maxHeartbeats 4000000 in
theorem w_L_k37 {p : Program} {l : Launch} {e : Env} {s : State} {m : MethodId} {args : Array Value} {below : List Frame} {meth : Method} {c : Code} {D : va_G} {ks : Nat → ClassId} {L : List Nat} {A : Nat → Prop} {b N : Nat} {xs : Nat → Int32} {o1 o2 o3 : Nat} {x4 : Int32} {h h' : mh_H} {H : Heap} {locs : List Loc} {ls : Array Slot} {cells slots : Nat} {Q : State → Prop} (cx : mh_C p m c cL_law 8 s args RL meth D ks A) (th : mh_Th l A s) (nc : mh_Nc s) (hS : va_X b N xs s s.heap ∧ b < s.heap.size ∧ ¬ A b) (hc : cells + 3 ≤ room_1.cells ∧ slots + 18 ≤ room_1.slots) (wd : mh_W D ks L A s.heap h H locs) (hl : lv_has ls 8 [(0, .ref b), (1, .ref o1), (2, .ref o2), (3, .ref o3), (4, .int x4)]) (hX : f_L_k37 xs N o1 o2 o3 x4 h = some h')
    (kk : ∀ H locs ls, mh_W D ks L A s.heap h' H locs → lv_has ls 8 [(0, .ref b), (1, .ref o1), (2, .ref o2), (3, .ref o3), (4, .int x4)] → W p l e room_1 s m args below meth c H locs (cells + 3) (slots + 18) Q (F0 m 2678 ls [])) : W p l e room_1 s m args below meth c H locs cells slots Q (F0 m 2598 ls []) := by
  have hx := cx.1.1
  have hb := cx.1.2.1
  unfold f_L_k37 at hX
  refine lv_aload_n hx hb dL_law_2598 rfl (lv_at hl 1 rfl) ?_
  refine lv_aload_n hx hb dL_law_2599 rfl (lv_at hl 0 rfl) ?_
  refine lv_iload hx hb dL_law_2600 (lv_at hl 4 rfl) ?_
  refine lv_iconst (v := 1) hx hb dL_law_2602 (by decide) ?_
  refine lv_iadd hx hb dL_law_2603 ?_
  refine mh_scl cx wd hS dL_law_2604 hX (fun v1 hX => ?_)
  refine lv_aload_n hx hb dL_law_2605 rfl (lv_at hl 0 rfl) ?_
  refine lv_iload hx hb dL_law_2606 (lv_at hl 4 rfl) ?_
  refine lv_iconst (v := 2) hx hb dL_law_2608 (by decide) ?_
  refine lv_iadd hx hb dL_law_2609 ?_
  refine mh_scl cx wd hS dL_law_2610 hX (fun v2 hX => ?_)
  refine lv_aload_n hx hb dL_law_2611 rfl (lv_at hl 0 rfl) ?_
  refine lv_iload hx hb dL_law_2612 (lv_at hl 4 rfl) ?_
  refine lv_iconst (v := 3) hx hb dL_law_2614 (by decide) ?_
  refine lv_iadd hx hb dL_law_2615 ?_
  refine mh_scl cx wd hS dL_law_2616 hX (fun v3 hX => ?_)
  refine lv_aload_n hx hb dL_law_2617 rfl (lv_at hl 3 rfl) ?_
  refine mh_wS cx th nc wd (K := 3) [.ref o1, .int v1, .int v2, .int v3, .ref o3] yx_L_deal sw_L_262 rfl hl.1 rfl (Nat.le_of_ble_eq_true rfl) dL_law_2618 ⟨Nat.le_of_ble_eq_true rfl, Nat.le_of_ble_eq_true rfl⟩ (mh_rq hc (k := 3) (j := 18) (Nat.le_of_ble_eq_true rfl) (Nat.le_of_ble_eq_true rfl)) (fun _ _ q => c_L_deal q) hX (fun v5 h4 H locs wd hX => ?_)
  refine lv_istore (lv' := [(5, .int v5), (0, .ref b), (1, .ref o1), (2, .ref o2), (3, .ref o3), (4, .int x4)]) hx hb dL_law_2621 hl (Nat.le_of_ble_eq_true rfl) rfl (fun ls hl => ?_)
  refine lv_aload_n hx hb dL_law_2623 rfl (lv_at hl 3 rfl) ?_
  refine lv_aload_n hx hb dL_law_2624 rfl (lv_at hl 1 rfl) ?_
  refine lv_iload hx hb dL_law_2625 (lv_at hl 5 rfl) ?_
  refine lv_iconst (v := 1) hx hb dL_law_2627 (by decide) ?_
  refine lv_iadd hx hb dL_law_2628 ?_
  refine mh_scl cx wd hS dL_law_2629 hX (fun v6 hX => ?_)
  refine lv_aload_n hx hb dL_law_2630 rfl (lv_at hl 1 rfl) ?_
  refine lv_iload hx hb dL_law_2631 (lv_at hl 5 rfl) ?_
  refine lv_iconst (v := 2) hx hb dL_law_2633 (by decide) ?_
  refine lv_iadd hx hb dL_law_2634 ?_
  refine mh_scl cx wd hS dL_law_2635 hX (fun v7 hX => ?_)
  refine lv_aload_n hx hb dL_law_2636 rfl (lv_at hl 1 rfl) ?_
  refine lv_iload hx hb dL_law_2637 (lv_at hl 5 rfl) ?_
  refine lv_iconst (v := 3) hx hb dL_law_2639 (by decide) ?_
  refine lv_iadd hx hb dL_law_2640 ?_
  refine mh_scl cx wd hS dL_law_2641 hX (fun v8 hX => ?_)
  refine mh_callVI cx wd [.int v6, .int v7, .int v8] (rfl : vwCl[12]? = some (RX12, TX12, 38)) yw_X12_deal vw_L_264 rfl hl.1 rfl (Nat.le_of_ble_eq_true rfl) dL_law_2642 ⟨Nat.le_of_ble_eq_true rfl, Nat.le_of_ble_eq_true rfl⟩ (mh_rq hc (k := 3) (j := 18) (Nat.le_of_ble_eq_true rfl) (Nat.le_of_ble_eq_true rfl)) (fun _ _ q => c_X12_deal q) hX (fun v10 h9 H locs wd hX => ?_)
  refine lv_istore (lv' := [(6, .int v10), (5, .int v5), (0, .ref b), (1, .ref o1), (2, .ref o2), (3, .ref o3), (4, .int x4)]) hx hb dL_law_2645 hl (Nat.le_of_ble_eq_true rfl) rfl (fun ls hl => ?_)
  refine lv_aload_n hx hb dL_law_2647 rfl (lv_at hl 4 rfl) ?_
  refine mh_callVI cx wd [] (rfl : vwCl[12]? = some (RX12, TX12, 38)) yw_X12_thrown vw_L_143 rfl hl.1 rfl (Nat.le_of_ble_eq_true rfl) dL_law_2648 ⟨Nat.le_of_ble_eq_true rfl, Nat.le_of_ble_eq_true rfl⟩ (mh_rq hc (k := 3) (j := 18) (Nat.le_of_ble_eq_true rfl) (Nat.le_of_ble_eq_true rfl)) (fun _ _ q => c_X12_thrown q) hX (fun v12 h11 H locs wd hX => ?_)
  refine lv_iload hx hb dL_law_2651 (lv_at hl 1 rfl) ?_
  refine lv_icmp_eq (tgt := 2658) hx hb dL_law_2653 rfl (fun hc => (fun hX => ?_) ((mh_if hX).1 hc)) (fun hc => (fun hX => ?_) ((mh_if hX).2 hc))
  · refine lv_iload hx hb dL_law_2658 (lv_at hl 1 rfl) ?_
    refine lv_if_ne (tgt := 2675) hx hb dL_law_2660 rfl (fun hc => (fun hX => ?_) ((mh_if hX).2 hc)) (fun hc => (fun hX => ?_) ((mh_if hX).1 hc))
    · refine lv_goto (tgt := 2678) hx hb dL_law_2675 rfl ?_
      cases hX
      refine W.widen (k := cells + 3) (n := slots + 18) (by omega) (by omega) ?_
      exact kk _ _ _ wd (lv_sub hl [2, 3, 4, 5, 6] rfl)
    · refine lv_aload_n hx hb dL_law_2663 rfl (lv_at hl 5 rfl) ?_
      refine lv_iconst (v := 0) hx hb dL_law_2664 (by decide) ?_
      refine mh_lald cx wd dL_law_2665 hX (fun w13 hX => ?_)
      refine lv_iload hx hb dL_law_2666 (lv_at hl 0 rfl) ?_
      refine lv_i2l hx hb dL_law_2668 rfl ?_
      refine W.lcmp hx hb dL_law_2669 ?_
      refine lv_if_eq (tgt := 2675) hx hb dL_law_2670 rfl (fun hc => (fun hX => ?_) ((mh_if hX).1 hc)) (fun hc => (fun hX => ?_) ((mh_if hX).2 hc))
      · refine lv_goto (tgt := 2678) hx hb dL_law_2675 rfl ?_
        cases hX
        refine W.widen (k := cells + 3) (n := slots + 18) (by omega) (by omega) ?_
        exact kk _ _ _ wd (lv_sub hl [2, 3, 4, 5, 6] rfl)
      · refine lv_iconst (v := 0) hx hb dL_law_2673 (by decide) ?_
        cases hX
  · refine lv_iconst (v := 0) hx hb dL_law_2656 (by decide) ?_
    cases hX
