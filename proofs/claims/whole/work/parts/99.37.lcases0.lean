def f_L_k0 (xs : Nat → Int32) (N o1 o2 o3 : Nat) (x4 : Int32) (h : mh_H) : Option mh_H :=
  (mh_sc xs N (x4 + (1 : Int32))).bind fun v1 =>
  (mh_sc xs N (x4 + (2 : Int32))).bind fun v2 =>
  mh_b2 (mh_cal h o1 11 (f_X11_coin_e o1 v1 v2 h)) fun v4 h3 =>
  (mh_sc xs N (x4 + (1 : Int32))).bind fun v5 =>
  (mh_sc xs N (x4 + (2 : Int32))).bind fun v6 =>
  mh_b2 (mh_cal h3 o2 12 (f_X12_coin_e o2 v5 v6 h3)) fun v8 h7 =>
  if v4 = v8 then (
  some h7) else
  none
set_option maxRecDepth 100000 in
set_option maxHeartbeats 4000000 in
theorem w_L_k0 {p : Program} {l : Launch} {e : Env} {s : State} {m : MethodId} {args : Array Value} {below : List Frame} {meth : Method} {c : Code} {D : va_G} {ks : Nat → ClassId} {L : List Nat} {A : Nat → Prop} {b N : Nat} {xs : Nat → Int32} {o1 o2 o3 : Nat} {x4 : Int32} {h h' : mh_H} {H : Heap} {locs : List Loc} {ls : Array Slot} {cells slots : Nat} {Q : State → Prop} (cx : mh_C p m c cL_law 8 s args RL meth D ks A) (th : mh_Th l A s) (nc : mh_Nc s) (hS : va_X b N xs s s.heap ∧ b < s.heap.size ∧ ¬ A b) (hc : cells + 3 ≤ room_1.cells ∧ slots + 18 ≤ room_1.slots) (wd : mh_W D ks L A s.heap h H locs) (hl : lv_has ls 8 [(0, .ref b), (1, .ref o1), (2, .ref o2), (3, .ref o3), (4, .int x4)]) (hX : f_L_k0 xs N o1 o2 o3 x4 h = some h')
    (kk : ∀ H locs ls, mh_W D ks L A s.heap h' H locs → lv_has ls 8 [(0, .ref b), (1, .ref o1), (2, .ref o2), (3, .ref o3), (4, .int x4)] → W p l e room_1 s m args below meth c H locs (cells + 3) (slots + 18) Q (F0 m 2678 ls [])) : W p l e room_1 s m args below meth c H locs cells slots Q (F0 m 204 ls []) := by
  have hx := cx.1.1
  have hb := cx.1.2.1
  unfold f_L_k0 at hX
  refine lv_aload_n hx hb dL_law_204 rfl (lv_at hl 1 rfl) ?_
  refine lv_aload_n hx hb dL_law_205 rfl (lv_at hl 0 rfl) ?_
  refine lv_iload hx hb dL_law_206 (lv_at hl 4 rfl) ?_
  refine lv_iconst (v := 1) hx hb dL_law_208 (by decide) ?_
  refine lv_iadd hx hb dL_law_209 ?_
  refine mh_scl cx wd hS dL_law_210 hX (fun v1 hX => ?_)
  refine lv_aload_n hx hb dL_law_211 rfl (lv_at hl 0 rfl) ?_
  refine lv_iload hx hb dL_law_212 (lv_at hl 4 rfl) ?_
  refine lv_iconst (v := 2) hx hb dL_law_214 (by decide) ?_
  refine lv_iadd hx hb dL_law_215 ?_
  refine mh_scl cx wd hS dL_law_216 hX (fun v2 hX => ?_)
  refine mh_callVI cx wd [.int v1, .int v2] (rfl : vwCl[11]? = some (RX11, TX11, 16)) yw_X11_coin vw_L_129 rfl hl.1 rfl (Nat.le_of_ble_eq_true rfl) dL_law_217 ⟨Nat.le_of_ble_eq_true rfl, Nat.le_of_ble_eq_true rfl⟩ (mh_rq hc (k := 0) (j := 0) (Nat.le_of_ble_eq_true rfl) (Nat.le_of_ble_eq_true rfl)) (fun _ _ q => c_X11_coin q) hX (fun v4 h3 H locs wd hX => ?_)
  refine lv_aload_n hx hb dL_law_220 rfl (lv_at hl 2 rfl) ?_
  refine lv_aload_n hx hb dL_law_221 rfl (lv_at hl 0 rfl) ?_
  refine lv_iload hx hb dL_law_222 (lv_at hl 4 rfl) ?_
  refine lv_iconst (v := 1) hx hb dL_law_224 (by decide) ?_
  refine lv_iadd hx hb dL_law_225 ?_
  refine mh_scl cx wd hS dL_law_226 hX (fun v5 hX => ?_)
  refine lv_aload_n hx hb dL_law_227 rfl (lv_at hl 0 rfl) ?_
  refine lv_iload hx hb dL_law_228 (lv_at hl 4 rfl) ?_
  refine lv_iconst (v := 2) hx hb dL_law_230 (by decide) ?_
  refine lv_iadd hx hb dL_law_231 ?_
  refine mh_scl cx wd hS dL_law_232 hX (fun v6 hX => ?_)
  refine mh_callVI cx wd [.int v5, .int v6] (rfl : vwCl[12]? = some (RX12, TX12, 38)) yw_X12_coin vw_L_132 rfl hl.1 rfl (Nat.le_of_ble_eq_true rfl) dL_law_233 ⟨Nat.le_of_ble_eq_true rfl, Nat.le_of_ble_eq_true rfl⟩ (mh_rq hc (k := 0) (j := 0) (Nat.le_of_ble_eq_true rfl) (Nat.le_of_ble_eq_true rfl)) (fun _ _ q => c_X12_coin q) hX (fun v8 h7 H locs wd hX => ?_)
  refine lv_icmp_eq (tgt := 2678) hx hb dL_law_236 rfl (fun hc => (fun hX => ?_) ((mh_if hX).1 hc)) (fun hc => (fun hX => ?_) ((mh_if hX).2 hc))
  · cases hX
    refine W.widen (k := cells + 3) (n := slots + 18) (by omega) (by omega) ?_
    exact kk _ _ _ wd (lv_sub hl [0, 1, 2, 3, 4] rfl)
  · refine lv_iconst (v := 0) hx hb dL_law_239 (by decide) ?_
    cases hX
def f_L_k1 (xs : Nat → Int32) (N o1 o2 o3 : Nat) (x4 : Int32) (h : mh_H) : Option mh_H :=
  (mh_sc xs N (x4 + (1 : Int32))).bind fun v1 =>
  (mh_sc xs N (x4 + (2 : Int32))).bind fun v2 =>
  mh_b2 (mh_cal h o1 11 (f_X11_melt_e o1 v1 v2 h)) fun v4 h3 =>
  (mh_sc xs N (x4 + (1 : Int32))).bind fun v5 =>
  (mh_sc xs N (x4 + (2 : Int32))).bind fun v6 =>
  mh_b2 (mh_cal h3 o2 12 (f_X12_melt_e o2 v5 v6 h3)) fun v8 h7 =>
  if v4 = v8 then (
  some h7) else
  none
set_option maxRecDepth 100000 in
set_option maxHeartbeats 4000000 in
theorem w_L_k1 {p : Program} {l : Launch} {e : Env} {s : State} {m : MethodId} {args : Array Value} {below : List Frame} {meth : Method} {c : Code} {D : va_G} {ks : Nat → ClassId} {L : List Nat} {A : Nat → Prop} {b N : Nat} {xs : Nat → Int32} {o1 o2 o3 : Nat} {x4 : Int32} {h h' : mh_H} {H : Heap} {locs : List Loc} {ls : Array Slot} {cells slots : Nat} {Q : State → Prop} (cx : mh_C p m c cL_law 8 s args RL meth D ks A) (th : mh_Th l A s) (nc : mh_Nc s) (hS : va_X b N xs s s.heap ∧ b < s.heap.size ∧ ¬ A b) (hc : cells + 3 ≤ room_1.cells ∧ slots + 18 ≤ room_1.slots) (wd : mh_W D ks L A s.heap h H locs) (hl : lv_has ls 8 [(0, .ref b), (1, .ref o1), (2, .ref o2), (3, .ref o3), (4, .int x4)]) (hX : f_L_k1 xs N o1 o2 o3 x4 h = some h')
    (kk : ∀ H locs ls, mh_W D ks L A s.heap h' H locs → lv_has ls 8 [(0, .ref b), (1, .ref o1), (2, .ref o2), (3, .ref o3), (4, .int x4)] → W p l e room_1 s m args below meth c H locs (cells + 3) (slots + 18) Q (F0 m 2678 ls [])) : W p l e room_1 s m args below meth c H locs cells slots Q (F0 m 241 ls []) := by
  have hx := cx.1.1
  have hb := cx.1.2.1
  unfold f_L_k1 at hX
  refine lv_aload_n hx hb dL_law_241 rfl (lv_at hl 1 rfl) ?_
  refine lv_aload_n hx hb dL_law_242 rfl (lv_at hl 0 rfl) ?_
  refine lv_iload hx hb dL_law_243 (lv_at hl 4 rfl) ?_
  refine lv_iconst (v := 1) hx hb dL_law_245 (by decide) ?_
  refine lv_iadd hx hb dL_law_246 ?_
  refine mh_scl cx wd hS dL_law_247 hX (fun v1 hX => ?_)
  refine lv_aload_n hx hb dL_law_248 rfl (lv_at hl 0 rfl) ?_
  refine lv_iload hx hb dL_law_249 (lv_at hl 4 rfl) ?_
  refine lv_iconst (v := 2) hx hb dL_law_251 (by decide) ?_
  refine lv_iadd hx hb dL_law_252 ?_
  refine mh_scl cx wd hS dL_law_253 hX (fun v2 hX => ?_)
  refine mh_callVI cx wd [.int v1, .int v2] (rfl : vwCl[11]? = some (RX11, TX11, 16)) yw_X11_melt vw_L_133 rfl hl.1 rfl (Nat.le_of_ble_eq_true rfl) dL_law_254 ⟨Nat.le_of_ble_eq_true rfl, Nat.le_of_ble_eq_true rfl⟩ (mh_rq hc (k := 0) (j := 0) (Nat.le_of_ble_eq_true rfl) (Nat.le_of_ble_eq_true rfl)) (fun _ _ q => c_X11_melt q) hX (fun v4 h3 H locs wd hX => ?_)
  refine lv_aload_n hx hb dL_law_257 rfl (lv_at hl 2 rfl) ?_
  refine lv_aload_n hx hb dL_law_258 rfl (lv_at hl 0 rfl) ?_
  refine lv_iload hx hb dL_law_259 (lv_at hl 4 rfl) ?_
  refine lv_iconst (v := 1) hx hb dL_law_261 (by decide) ?_
  refine lv_iadd hx hb dL_law_262 ?_
  refine mh_scl cx wd hS dL_law_263 hX (fun v5 hX => ?_)
  refine lv_aload_n hx hb dL_law_264 rfl (lv_at hl 0 rfl) ?_
  refine lv_iload hx hb dL_law_265 (lv_at hl 4 rfl) ?_
  refine lv_iconst (v := 2) hx hb dL_law_267 (by decide) ?_
  refine lv_iadd hx hb dL_law_268 ?_
  refine mh_scl cx wd hS dL_law_269 hX (fun v6 hX => ?_)
  refine mh_callVI cx wd [.int v5, .int v6] (rfl : vwCl[12]? = some (RX12, TX12, 38)) yw_X12_melt vw_L_136 rfl hl.1 rfl (Nat.le_of_ble_eq_true rfl) dL_law_270 ⟨Nat.le_of_ble_eq_true rfl, Nat.le_of_ble_eq_true rfl⟩ (mh_rq hc (k := 0) (j := 0) (Nat.le_of_ble_eq_true rfl) (Nat.le_of_ble_eq_true rfl)) (fun _ _ q => c_X12_melt q) hX (fun v8 h7 H locs wd hX => ?_)
  refine lv_icmp_eq (tgt := 2678) hx hb dL_law_273 rfl (fun hc => (fun hX => ?_) ((mh_if hX).1 hc)) (fun hc => (fun hX => ?_) ((mh_if hX).2 hc))
  · cases hX
    refine W.widen (k := cells + 3) (n := slots + 18) (by omega) (by omega) ?_
    exact kk _ _ _ wd (lv_sub hl [0, 1, 2, 3, 4] rfl)
  · refine lv_iconst (v := 0) hx hb dL_law_276 (by decide) ?_
    cases hX
def f_L_k2 (xs : Nat → Int32) (N o1 o2 o3 : Nat) (x4 : Int32) (h : mh_H) : Option mh_H :=
  (mh_sc xs N (x4 + (1 : Int32))).bind fun v1 =>
  (mh_sc xs N (x4 + (2 : Int32))).bind fun v2 =>
  mh_b2 (f_L_at_e o1 v1 v2 o3 h) fun v4 h3 =>
  (mh_sc xs N (x4 + (1 : Int32))).bind fun v5 =>
  (mh_sc xs N (x4 + (2 : Int32))).bind fun v6 =>
  mh_b2 (mh_cal h3 o2 12 (f_X12_at_e o2 v5 v6 h3)) fun v8 h7 =>
  mh_b2 (mh_cal h7 o2 12 (f_X12_thrown_e o2 h7)) fun v10 h9 =>
  if v10 = v4 then (
  if v4 = 0 then (
  (mh_aJ h9 o3 (0 : Int32)).bind fun w11 =>
  if (lg_cmp w11 ((v8).toInt64)) = 0 then (
  some h9) else
  none) else
  some h9) else
  none
set_option maxRecDepth 100000 in
set_option maxHeartbeats 4000000 in
theorem w_L_k2 {p : Program} {l : Launch} {e : Env} {s : State} {m : MethodId} {args : Array Value} {below : List Frame} {meth : Method} {c : Code} {D : va_G} {ks : Nat → ClassId} {L : List Nat} {A : Nat → Prop} {b N : Nat} {xs : Nat → Int32} {o1 o2 o3 : Nat} {x4 : Int32} {h h' : mh_H} {H : Heap} {locs : List Loc} {ls : Array Slot} {cells slots : Nat} {Q : State → Prop} (cx : mh_C p m c cL_law 8 s args RL meth D ks A) (th : mh_Th l A s) (nc : mh_Nc s) (hS : va_X b N xs s s.heap ∧ b < s.heap.size ∧ ¬ A b) (hc : cells + 3 ≤ room_1.cells ∧ slots + 18 ≤ room_1.slots) (wd : mh_W D ks L A s.heap h H locs) (hl : lv_has ls 8 [(0, .ref b), (1, .ref o1), (2, .ref o2), (3, .ref o3), (4, .int x4)]) (hX : f_L_k2 xs N o1 o2 o3 x4 h = some h')
    (kk : ∀ H locs ls, mh_W D ks L A s.heap h' H locs → lv_has ls 8 [(0, .ref b), (1, .ref o1), (2, .ref o2), (3, .ref o3), (4, .int x4)] → W p l e room_1 s m args below meth c H locs (cells + 3) (slots + 18) Q (F0 m 2678 ls [])) : W p l e room_1 s m args below meth c H locs cells slots Q (F0 m 278 ls []) := by
  have hx := cx.1.1
  have hb := cx.1.2.1
  unfold f_L_k2 at hX
  refine lv_aload_n hx hb dL_law_278 rfl (lv_at hl 1 rfl) ?_
  refine lv_aload_n hx hb dL_law_279 rfl (lv_at hl 0 rfl) ?_
  refine lv_iload hx hb dL_law_280 (lv_at hl 4 rfl) ?_
  refine lv_iconst (v := 1) hx hb dL_law_282 (by decide) ?_
  refine lv_iadd hx hb dL_law_283 ?_
  refine mh_scl cx wd hS dL_law_284 hX (fun v1 hX => ?_)
  refine lv_aload_n hx hb dL_law_285 rfl (lv_at hl 0 rfl) ?_
  refine lv_iload hx hb dL_law_286 (lv_at hl 4 rfl) ?_
  refine lv_iconst (v := 2) hx hb dL_law_288 (by decide) ?_
  refine lv_iadd hx hb dL_law_289 ?_
  refine mh_scl cx wd hS dL_law_290 hX (fun v2 hX => ?_)
  refine lv_aload_n hx hb dL_law_291 rfl (lv_at hl 3 rfl) ?_
  refine mh_wS cx th nc wd (K := 2) [.ref o1, .int v1, .int v2, .ref o3] yx_L_at sw_L_137 rfl hl.1 rfl (Nat.le_of_ble_eq_true rfl) dL_law_292 ⟨Nat.le_of_ble_eq_true rfl, Nat.le_of_ble_eq_true rfl⟩ (mh_rq hc (k := 2) (j := 12) (Nat.le_of_ble_eq_true rfl) (Nat.le_of_ble_eq_true rfl)) (fun _ _ q => c_L_at q) hX (fun v4 h3 H locs wd hX => ?_)
  refine lv_istore (lv' := [(5, .int v4), (0, .ref b), (1, .ref o1), (2, .ref o2), (3, .ref o3), (4, .int x4)]) hx hb dL_law_295 hl (Nat.le_of_ble_eq_true rfl) rfl (fun ls hl => ?_)
  refine lv_aload_n hx hb dL_law_297 rfl (lv_at hl 3 rfl) ?_
  refine lv_aload_n hx hb dL_law_298 rfl (lv_at hl 1 rfl) ?_
  refine lv_iload hx hb dL_law_299 (lv_at hl 5 rfl) ?_
  refine lv_iconst (v := 1) hx hb dL_law_301 (by decide) ?_
  refine lv_iadd hx hb dL_law_302 ?_
  refine mh_scl cx wd hS dL_law_303 hX (fun v5 hX => ?_)
  refine lv_aload_n hx hb dL_law_304 rfl (lv_at hl 1 rfl) ?_
  refine lv_iload hx hb dL_law_305 (lv_at hl 5 rfl) ?_
  refine lv_iconst (v := 2) hx hb dL_law_307 (by decide) ?_
  refine lv_iadd hx hb dL_law_308 ?_
  refine mh_scl cx wd hS dL_law_309 hX (fun v6 hX => ?_)
  refine mh_callVI cx wd [.int v5, .int v6] (rfl : vwCl[12]? = some (RX12, TX12, 38)) yw_X12_at vw_L_142 rfl hl.1 rfl (Nat.le_of_ble_eq_true rfl) dL_law_310 ⟨Nat.le_of_ble_eq_true rfl, Nat.le_of_ble_eq_true rfl⟩ (mh_rq hc (k := 2) (j := 12) (Nat.le_of_ble_eq_true rfl) (Nat.le_of_ble_eq_true rfl)) (fun _ _ q => c_X12_at q) hX (fun v8 h7 H locs wd hX => ?_)
  refine lv_istore (lv' := [(6, .int v8), (5, .int v4), (0, .ref b), (1, .ref o1), (2, .ref o2), (3, .ref o3), (4, .int x4)]) hx hb dL_law_313 hl (Nat.le_of_ble_eq_true rfl) rfl (fun ls hl => ?_)
  refine lv_aload_n hx hb dL_law_315 rfl (lv_at hl 4 rfl) ?_
  refine mh_callVI cx wd [] (rfl : vwCl[12]? = some (RX12, TX12, 38)) yw_X12_thrown vw_L_143 rfl hl.1 rfl (Nat.le_of_ble_eq_true rfl) dL_law_316 ⟨Nat.le_of_ble_eq_true rfl, Nat.le_of_ble_eq_true rfl⟩ (mh_rq hc (k := 2) (j := 12) (Nat.le_of_ble_eq_true rfl) (Nat.le_of_ble_eq_true rfl)) (fun _ _ q => c_X12_thrown q) hX (fun v10 h9 H locs wd hX => ?_)
  refine lv_iload hx hb dL_law_319 (lv_at hl 1 rfl) ?_
  refine lv_icmp_eq (tgt := 326) hx hb dL_law_321 rfl (fun hc => (fun hX => ?_) ((mh_if hX).1 hc)) (fun hc => (fun hX => ?_) ((mh_if hX).2 hc))
  · refine lv_iload hx hb dL_law_326 (lv_at hl 1 rfl) ?_
    refine lv_if_ne (tgt := 343) hx hb dL_law_328 rfl (fun hc => (fun hX => ?_) ((mh_if hX).2 hc)) (fun hc => (fun hX => ?_) ((mh_if hX).1 hc))
    · refine lv_goto (tgt := 2678) hx hb dL_law_343 rfl ?_
      cases hX
      refine W.widen (k := cells + 3) (n := slots + 18) (by omega) (by omega) ?_
      exact kk _ _ _ wd (lv_sub hl [2, 3, 4, 5, 6] rfl)
    · refine lv_aload_n hx hb dL_law_331 rfl (lv_at hl 5 rfl) ?_
      refine lv_iconst (v := 0) hx hb dL_law_332 (by decide) ?_
      refine mh_lald cx wd dL_law_333 hX (fun w11 hX => ?_)
      refine lv_iload hx hb dL_law_334 (lv_at hl 0 rfl) ?_
      refine lv_i2l hx hb dL_law_336 rfl ?_
      refine W.lcmp hx hb dL_law_337 ?_
      refine lv_if_eq (tgt := 343) hx hb dL_law_338 rfl (fun hc => (fun hX => ?_) ((mh_if hX).1 hc)) (fun hc => (fun hX => ?_) ((mh_if hX).2 hc))
      · refine lv_goto (tgt := 2678) hx hb dL_law_343 rfl ?_
        cases hX
        refine W.widen (k := cells + 3) (n := slots + 18) (by omega) (by omega) ?_
        exact kk _ _ _ wd (lv_sub hl [2, 3, 4, 5, 6] rfl)
      · refine lv_iconst (v := 0) hx hb dL_law_341 (by decide) ?_
        cases hX
  · refine lv_iconst (v := 0) hx hb dL_law_324 (by decide) ?_
    cases hX
def f_L_k3 (xs : Nat → Int32) (N o1 o2 o3 : Nat) (x4 : Int32) (h : mh_H) : Option mh_H :=
  mh_b2 (mh_cal h o1 11 (f_X11_undo_e o1 h)) fun v2 h1 =>
  mh_b2 (mh_cal h1 o2 12 (f_X12_undo_e o2 h1)) fun v4 h3 =>
  if v2 = v4 then (
  some h3) else
  none
set_option maxRecDepth 100000 in
set_option maxHeartbeats 4000000 in
theorem w_L_k3 {p : Program} {l : Launch} {e : Env} {s : State} {m : MethodId} {args : Array Value} {below : List Frame} {meth : Method} {c : Code} {D : va_G} {ks : Nat → ClassId} {L : List Nat} {A : Nat → Prop} {b N : Nat} {xs : Nat → Int32} {o1 o2 o3 : Nat} {x4 : Int32} {h h' : mh_H} {H : Heap} {locs : List Loc} {ls : Array Slot} {cells slots : Nat} {Q : State → Prop} (cx : mh_C p m c cL_law 8 s args RL meth D ks A) (th : mh_Th l A s) (nc : mh_Nc s) (hS : va_X b N xs s s.heap ∧ b < s.heap.size ∧ ¬ A b) (hc : cells + 3 ≤ room_1.cells ∧ slots + 18 ≤ room_1.slots) (wd : mh_W D ks L A s.heap h H locs) (hl : lv_has ls 8 [(0, .ref b), (1, .ref o1), (2, .ref o2), (3, .ref o3), (4, .int x4)]) (hX : f_L_k3 xs N o1 o2 o3 x4 h = some h')
    (kk : ∀ H locs ls, mh_W D ks L A s.heap h' H locs → lv_has ls 8 [(0, .ref b), (1, .ref o1), (2, .ref o2), (3, .ref o3), (4, .int x4)] → W p l e room_1 s m args below meth c H locs (cells + 3) (slots + 18) Q (F0 m 2678 ls [])) : W p l e room_1 s m args below meth c H locs cells slots Q (F0 m 346 ls []) := by
  have hx := cx.1.1
  have hb := cx.1.2.1
  unfold f_L_k3 at hX
  refine lv_aload_n hx hb dL_law_346 rfl (lv_at hl 1 rfl) ?_
  refine mh_callVI cx wd [] (rfl : vwCl[11]? = some (RX11, TX11, 16)) yw_X11_undo vw_L_147 rfl hl.1 rfl (Nat.le_of_ble_eq_true rfl) dL_law_347 ⟨Nat.le_of_ble_eq_true rfl, Nat.le_of_ble_eq_true rfl⟩ (mh_rq hc (k := 0) (j := 0) (Nat.le_of_ble_eq_true rfl) (Nat.le_of_ble_eq_true rfl)) (fun _ _ q => c_X11_undo q) hX (fun v2 h1 H locs wd hX => ?_)
  refine lv_aload_n hx hb dL_law_350 rfl (lv_at hl 2 rfl) ?_
  refine mh_callVI cx wd [] (rfl : vwCl[12]? = some (RX12, TX12, 38)) yw_X12_undo vw_L_151 rfl hl.1 rfl (Nat.le_of_ble_eq_true rfl) dL_law_351 ⟨Nat.le_of_ble_eq_true rfl, Nat.le_of_ble_eq_true rfl⟩ (mh_rq hc (k := 0) (j := 0) (Nat.le_of_ble_eq_true rfl) (Nat.le_of_ble_eq_true rfl)) (fun _ _ q => c_X12_undo q) hX (fun v4 h3 H locs wd hX => ?_)
  refine lv_icmp_eq (tgt := 2678) hx hb dL_law_354 rfl (fun hc => (fun hX => ?_) ((mh_if hX).1 hc)) (fun hc => (fun hX => ?_) ((mh_if hX).2 hc))
  · cases hX
    refine W.widen (k := cells + 3) (n := slots + 18) (by omega) (by omega) ?_
    exact kk _ _ _ wd (lv_sub hl [0, 1, 2, 3, 4] rfl)
  · refine lv_iconst (v := 0) hx hb dL_law_357 (by decide) ?_
    cases hX
def f_L_k4 (xs : Nat → Int32) (N o1 o2 o3 : Nat) (x4 : Int32) (h : mh_H) : Option mh_H :=
  mh_b2 (mh_cal h o1 11 (f_X11_redo_e o1 h)) fun v2 h1 =>
  mh_b2 (mh_cal h1 o2 12 (f_X12_redo_e o2 h1)) fun v4 h3 =>
  if v2 = v4 then (
  some h3) else
  none
set_option maxRecDepth 100000 in
set_option maxHeartbeats 4000000 in
theorem w_L_k4 {p : Program} {l : Launch} {e : Env} {s : State} {m : MethodId} {args : Array Value} {below : List Frame} {meth : Method} {c : Code} {D : va_G} {ks : Nat → ClassId} {L : List Nat} {A : Nat → Prop} {b N : Nat} {xs : Nat → Int32} {o1 o2 o3 : Nat} {x4 : Int32} {h h' : mh_H} {H : Heap} {locs : List Loc} {ls : Array Slot} {cells slots : Nat} {Q : State → Prop} (cx : mh_C p m c cL_law 8 s args RL meth D ks A) (th : mh_Th l A s) (nc : mh_Nc s) (hS : va_X b N xs s s.heap ∧ b < s.heap.size ∧ ¬ A b) (hc : cells + 3 ≤ room_1.cells ∧ slots + 18 ≤ room_1.slots) (wd : mh_W D ks L A s.heap h H locs) (hl : lv_has ls 8 [(0, .ref b), (1, .ref o1), (2, .ref o2), (3, .ref o3), (4, .int x4)]) (hX : f_L_k4 xs N o1 o2 o3 x4 h = some h')
    (kk : ∀ H locs ls, mh_W D ks L A s.heap h' H locs → lv_has ls 8 [(0, .ref b), (1, .ref o1), (2, .ref o2), (3, .ref o3), (4, .int x4)] → W p l e room_1 s m args below meth c H locs (cells + 3) (slots + 18) Q (F0 m 2678 ls [])) : W p l e room_1 s m args below meth c H locs cells slots Q (F0 m 359 ls []) := by
  have hx := cx.1.1
  have hb := cx.1.2.1
  unfold f_L_k4 at hX
  refine lv_aload_n hx hb dL_law_359 rfl (lv_at hl 1 rfl) ?_
  refine mh_callVI cx wd [] (rfl : vwCl[11]? = some (RX11, TX11, 16)) yw_X11_redo vw_L_152 rfl hl.1 rfl (Nat.le_of_ble_eq_true rfl) dL_law_360 ⟨Nat.le_of_ble_eq_true rfl, Nat.le_of_ble_eq_true rfl⟩ (mh_rq hc (k := 0) (j := 0) (Nat.le_of_ble_eq_true rfl) (Nat.le_of_ble_eq_true rfl)) (fun _ _ q => c_X11_redo q) hX (fun v2 h1 H locs wd hX => ?_)
  refine lv_aload_n hx hb dL_law_363 rfl (lv_at hl 2 rfl) ?_
  refine mh_callVI cx wd [] (rfl : vwCl[12]? = some (RX12, TX12, 38)) yw_X12_redo vw_L_155 rfl hl.1 rfl (Nat.le_of_ble_eq_true rfl) dL_law_364 ⟨Nat.le_of_ble_eq_true rfl, Nat.le_of_ble_eq_true rfl⟩ (mh_rq hc (k := 0) (j := 0) (Nat.le_of_ble_eq_true rfl) (Nat.le_of_ble_eq_true rfl)) (fun _ _ q => c_X12_redo q) hX (fun v4 h3 H locs wd hX => ?_)
  refine lv_icmp_eq (tgt := 2678) hx hb dL_law_367 rfl (fun hc => (fun hX => ?_) ((mh_if hX).1 hc)) (fun hc => (fun hX => ?_) ((mh_if hX).2 hc))
  · cases hX
    refine W.widen (k := cells + 3) (n := slots + 18) (by omega) (by omega) ?_
    exact kk _ _ _ wd (lv_sub hl [0, 1, 2, 3, 4] rfl)
  · refine lv_iconst (v := 0) hx hb dL_law_370 (by decide) ?_
    cases hX
def f_L_k5 (xs : Nat → Int32) (N o1 o2 o3 : Nat) (x4 : Int32) (h : mh_H) : Option mh_H :=
  (mh_sc xs N (x4 + (1 : Int32))).bind fun v1 =>
  (mh_sc xs N (x4 + (2 : Int32))).bind fun v2 =>
  (mh_sc xs N (x4 + (3 : Int32))).bind fun v3 =>
  mh_b2 (f_L_fewest_e o1 v1 (((v2).toInt64 <<< (((32 : Int32)).toInt64 &&& 63)) ||| ((v3).toInt64 &&& (4294967295 : Int64))) o3 h) fun v5 h4 =>
  (mh_sc xs N (x4 + (1 : Int32))).bind fun v6 =>
  (mh_sc xs N (x4 + (2 : Int32))).bind fun v7 =>
  (mh_sc xs N (x4 + (3 : Int32))).bind fun v8 =>
  mh_b2 (mh_cal h4 o2 12 (f_X12_fewest_e o2 v6 (((v7).toInt64 <<< (((32 : Int32)).toInt64 &&& 63)) ||| ((v8).toInt64 &&& (4294967295 : Int64))) h4)) fun w10 h9 =>
  mh_b2 (mh_cal h9 o2 12 (f_X12_thrown_e o2 h9)) fun v12 h11 =>
  if v12 = v5 then (
  if v5 = 0 then (
  (mh_aJ h11 o3 (0 : Int32)).bind fun w13 =>
  if (lg_cmp w13 w10) = 0 then (
  some h11) else
  none) else
  some h11) else
  none
set_option maxRecDepth 100000 in
set_option maxHeartbeats 4000000 in
theorem w_L_k5 {p : Program} {l : Launch} {e : Env} {s : State} {m : MethodId} {args : Array Value} {below : List Frame} {meth : Method} {c : Code} {D : va_G} {ks : Nat → ClassId} {L : List Nat} {A : Nat → Prop} {b N : Nat} {xs : Nat → Int32} {o1 o2 o3 : Nat} {x4 : Int32} {h h' : mh_H} {H : Heap} {locs : List Loc} {ls : Array Slot} {cells slots : Nat} {Q : State → Prop} (cx : mh_C p m c cL_law 8 s args RL meth D ks A) (th : mh_Th l A s) (nc : mh_Nc s) (hS : va_X b N xs s s.heap ∧ b < s.heap.size ∧ ¬ A b) (hc : cells + 3 ≤ room_1.cells ∧ slots + 18 ≤ room_1.slots) (wd : mh_W D ks L A s.heap h H locs) (hl : lv_has ls 8 [(0, .ref b), (1, .ref o1), (2, .ref o2), (3, .ref o3), (4, .int x4)]) (hX : f_L_k5 xs N o1 o2 o3 x4 h = some h')
    (kk : ∀ H locs ls, mh_W D ks L A s.heap h' H locs → lv_has ls 8 [(0, .ref b), (1, .ref o1), (2, .ref o2), (3, .ref o3), (4, .int x4)] → W p l e room_1 s m args below meth c H locs (cells + 3) (slots + 18) Q (F0 m 2678 ls [])) : W p l e room_1 s m args below meth c H locs cells slots Q (F0 m 372 ls []) := by
  have hx := cx.1.1
  have hb := cx.1.2.1
  unfold f_L_k5 at hX
  refine lv_aload_n hx hb dL_law_372 rfl (lv_at hl 1 rfl) ?_
  refine lv_aload_n hx hb dL_law_373 rfl (lv_at hl 0 rfl) ?_
  refine lv_iload hx hb dL_law_374 (lv_at hl 4 rfl) ?_
  refine lv_iconst (v := 1) hx hb dL_law_376 (by decide) ?_
  refine lv_iadd hx hb dL_law_377 ?_
  refine mh_scl cx wd hS dL_law_378 hX (fun v1 hX => ?_)
  refine lv_aload_n hx hb dL_law_379 rfl (lv_at hl 0 rfl) ?_
  refine lv_iload hx hb dL_law_380 (lv_at hl 4 rfl) ?_
  refine lv_iconst (v := 2) hx hb dL_law_382 (by decide) ?_
  refine lv_iadd hx hb dL_law_383 ?_
  refine mh_scl cx wd hS dL_law_384 hX (fun v2 hX => ?_)
  refine lv_i2l hx hb dL_law_385 rfl ?_
  refine lv_bipush (v := 32) hx hb dL_law_386 (by decide) ?_
  refine lv_lshl hx hb dL_law_388 rfl ?_
  refine lv_aload_n hx hb dL_law_389 rfl (lv_at hl 0 rfl) ?_
  refine lv_iload hx hb dL_law_390 (lv_at hl 4 rfl) ?_
  refine lv_iconst (v := 3) hx hb dL_law_392 (by decide) ?_
  refine lv_iadd hx hb dL_law_393 ?_
  refine mh_scl cx wd hS dL_law_394 hX (fun v3 hX => ?_)
  refine lv_i2l hx hb dL_law_395 rfl ?_
  refine mh_ldc2 cx kl_L_156 dL_law_396 ?_
  refine lv_land hx hb dL_law_399 ?_
  refine lv_lor hx hb dL_law_400 ?_
  refine lv_aload_n hx hb dL_law_401 rfl (lv_at hl 3 rfl) ?_
  refine mh_wS cx th nc wd (K := 2) [.ref o1, .int v1, .long (((v2).toInt64 <<< (((32 : Int32)).toInt64 &&& 63)) ||| ((v3).toInt64 &&& (4294967295 : Int64))), .ref o3] yx_L_fewest sw_L_158 rfl hl.1 rfl (Nat.le_of_ble_eq_true rfl) dL_law_402 ⟨Nat.le_of_ble_eq_true rfl, Nat.le_of_ble_eq_true rfl⟩ (mh_rq hc (k := 2) (j := 12) (Nat.le_of_ble_eq_true rfl) (Nat.le_of_ble_eq_true rfl)) (fun _ _ q => c_L_fewest q) hX (fun v5 h4 H locs wd hX => ?_)
  refine lv_istore (lv' := [(5, .int v5), (0, .ref b), (1, .ref o1), (2, .ref o2), (3, .ref o3), (4, .int x4)]) hx hb dL_law_405 hl (Nat.le_of_ble_eq_true rfl) rfl (fun ls hl => ?_)
  refine lv_aload_n hx hb dL_law_407 rfl (lv_at hl 3 rfl) ?_
  refine lv_aload_n hx hb dL_law_408 rfl (lv_at hl 1 rfl) ?_
  refine lv_iload hx hb dL_law_409 (lv_at hl 5 rfl) ?_
  refine lv_iconst (v := 1) hx hb dL_law_411 (by decide) ?_
  refine lv_iadd hx hb dL_law_412 ?_
  refine mh_scl cx wd hS dL_law_413 hX (fun v6 hX => ?_)
  refine lv_aload_n hx hb dL_law_414 rfl (lv_at hl 1 rfl) ?_
  refine lv_iload hx hb dL_law_415 (lv_at hl 5 rfl) ?_
  refine lv_iconst (v := 2) hx hb dL_law_417 (by decide) ?_
  refine lv_iadd hx hb dL_law_418 ?_
  refine mh_scl cx wd hS dL_law_419 hX (fun v7 hX => ?_)
  refine lv_i2l hx hb dL_law_420 rfl ?_
  refine lv_bipush (v := 32) hx hb dL_law_421 (by decide) ?_
  refine lv_lshl hx hb dL_law_423 rfl ?_
  refine lv_aload_n hx hb dL_law_424 rfl (lv_at hl 1 rfl) ?_
  refine lv_iload hx hb dL_law_425 (lv_at hl 5 rfl) ?_
  refine lv_iconst (v := 3) hx hb dL_law_427 (by decide) ?_
  refine lv_iadd hx hb dL_law_428 ?_
  refine mh_scl cx wd hS dL_law_429 hX (fun v8 hX => ?_)
  refine lv_i2l hx hb dL_law_430 rfl ?_
  refine mh_ldc2 cx kl_L_156 dL_law_431 ?_
  refine lv_land hx hb dL_law_434 ?_
  refine lv_lor hx hb dL_law_435 ?_
  refine mh_callVJ cx wd [.int v6, .long (((v7).toInt64 <<< (((32 : Int32)).toInt64 &&& 63)) ||| ((v8).toInt64 &&& (4294967295 : Int64)))] (rfl : vwCl[12]? = some (RX12, TX12, 38)) yw_X12_fewest vw_L_161 rfl hl.1 rfl (Nat.le_of_ble_eq_true rfl) dL_law_436 ⟨Nat.le_of_ble_eq_true rfl, Nat.le_of_ble_eq_true rfl⟩ (mh_rq hc (k := 2) (j := 12) (Nat.le_of_ble_eq_true rfl) (Nat.le_of_ble_eq_true rfl)) (fun _ _ q => c_X12_fewest q) hX (fun w10 h9 H locs wd hX => ?_)
  refine lv_lstore (lv' := [(6, .long w10), (5, .int v5), (0, .ref b), (1, .ref o1), (2, .ref o2), (3, .ref o3), (4, .int x4)]) hx hb dL_law_439 hl (Nat.le_of_ble_eq_true rfl) rfl (fun ls hl => ?_)
  refine lv_aload_n hx hb dL_law_441 rfl (lv_at hl 4 rfl) ?_
  refine mh_callVI cx wd [] (rfl : vwCl[12]? = some (RX12, TX12, 38)) yw_X12_thrown vw_L_143 rfl hl.1 rfl (Nat.le_of_ble_eq_true rfl) dL_law_442 ⟨Nat.le_of_ble_eq_true rfl, Nat.le_of_ble_eq_true rfl⟩ (mh_rq hc (k := 2) (j := 12) (Nat.le_of_ble_eq_true rfl) (Nat.le_of_ble_eq_true rfl)) (fun _ _ q => c_X12_thrown q) hX (fun v12 h11 H locs wd hX => ?_)
  refine lv_iload hx hb dL_law_445 (lv_at hl 1 rfl) ?_
  refine lv_icmp_eq (tgt := 452) hx hb dL_law_447 rfl (fun hc => (fun hX => ?_) ((mh_if hX).1 hc)) (fun hc => (fun hX => ?_) ((mh_if hX).2 hc))
  · refine lv_iload hx hb dL_law_452 (lv_at hl 1 rfl) ?_
    refine lv_if_ne (tgt := 468) hx hb dL_law_454 rfl (fun hc => (fun hX => ?_) ((mh_if hX).2 hc)) (fun hc => (fun hX => ?_) ((mh_if hX).1 hc))
    · refine lv_goto (tgt := 2678) hx hb dL_law_468 rfl ?_
      cases hX
      refine W.widen (k := cells + 3) (n := slots + 18) (by omega) (by omega) ?_
      exact kk _ _ _ wd (lv_sub hl [2, 3, 4, 5, 6] rfl)
    · refine lv_aload_n hx hb dL_law_457 rfl (lv_at hl 5 rfl) ?_
      refine lv_iconst (v := 0) hx hb dL_law_458 (by decide) ?_
      refine mh_lald cx wd dL_law_459 hX (fun w13 hX => ?_)
      refine lv_lload hx hb dL_law_460 (lv_at hl 0 rfl) ?_
      refine W.lcmp hx hb dL_law_462 ?_
      refine lv_if_eq (tgt := 468) hx hb dL_law_463 rfl (fun hc => (fun hX => ?_) ((mh_if hX).1 hc)) (fun hc => (fun hX => ?_) ((mh_if hX).2 hc))
      · refine lv_goto (tgt := 2678) hx hb dL_law_468 rfl ?_
        cases hX
        refine W.widen (k := cells + 3) (n := slots + 18) (by omega) (by omega) ?_
        exact kk _ _ _ wd (lv_sub hl [2, 3, 4, 5, 6] rfl)
      · refine lv_iconst (v := 0) hx hb dL_law_466 (by decide) ?_
        cases hX
  · refine lv_iconst (v := 0) hx hb dL_law_450 (by decide) ?_
    cases hX
def f_L_k6 (xs : Nat → Int32) (N o1 o2 o3 : Nat) (x4 : Int32) (h : mh_H) : Option mh_H :=
  (mh_sc xs N (x4 + (1 : Int32))).bind fun v1 =>
  (mh_sc xs N (x4 + (2 : Int32))).bind fun v2 =>
  (mh_sc xs N (x4 + (3 : Int32))).bind fun v3 =>
  (mh_sc xs N (x4 + (4 : Int32))).bind fun v4 =>
  mh_b2 (f_L_with_e o1 v1 (((v2).toInt64 <<< (((32 : Int32)).toInt64 &&& 63)) ||| ((v3).toInt64 &&& (4294967295 : Int64))) v4 o3 h) fun v6 h5 =>
  (mh_sc xs N (x4 + (1 : Int32))).bind fun v7 =>
  (mh_sc xs N (x4 + (2 : Int32))).bind fun v8 =>
  (mh_sc xs N (x4 + (3 : Int32))).bind fun v9 =>
  (mh_sc xs N (x4 + (4 : Int32))).bind fun v10 =>
  mh_b2 (mh_cal h5 o2 12 (f_X12_with_e o2 v7 (((v8).toInt64 <<< (((32 : Int32)).toInt64 &&& 63)) ||| ((v9).toInt64 &&& (4294967295 : Int64))) v10 h5)) fun w12 h11 =>
  mh_b2 (mh_cal h11 o2 12 (f_X12_thrown_e o2 h11)) fun v14 h13 =>
  if v14 = v6 then (
  if v6 = 0 then (
  (mh_aJ h13 o3 (0 : Int32)).bind fun w15 =>
  if (lg_cmp w15 w12) = 0 then (
  some h13) else
  none) else
  some h13) else
  none
set_option maxRecDepth 100000 in
set_option maxHeartbeats 4000000 in
theorem w_L_k6 {p : Program} {l : Launch} {e : Env} {s : State} {m : MethodId} {args : Array Value} {below : List Frame} {meth : Method} {c : Code} {D : va_G} {ks : Nat → ClassId} {L : List Nat} {A : Nat → Prop} {b N : Nat} {xs : Nat → Int32} {o1 o2 o3 : Nat} {x4 : Int32} {h h' : mh_H} {H : Heap} {locs : List Loc} {ls : Array Slot} {cells slots : Nat} {Q : State → Prop} (cx : mh_C p m c cL_law 8 s args RL meth D ks A) (th : mh_Th l A s) (nc : mh_Nc s) (hS : va_X b N xs s s.heap ∧ b < s.heap.size ∧ ¬ A b) (hc : cells + 3 ≤ room_1.cells ∧ slots + 18 ≤ room_1.slots) (wd : mh_W D ks L A s.heap h H locs) (hl : lv_has ls 8 [(0, .ref b), (1, .ref o1), (2, .ref o2), (3, .ref o3), (4, .int x4)]) (hX : f_L_k6 xs N o1 o2 o3 x4 h = some h')
    (kk : ∀ H locs ls, mh_W D ks L A s.heap h' H locs → lv_has ls 8 [(0, .ref b), (1, .ref o1), (2, .ref o2), (3, .ref o3), (4, .int x4)] → W p l e room_1 s m args below meth c H locs (cells + 3) (slots + 18) Q (F0 m 2678 ls [])) : W p l e room_1 s m args below meth c H locs cells slots Q (F0 m 471 ls []) := by
  have hx := cx.1.1
  have hb := cx.1.2.1
  unfold f_L_k6 at hX
  refine lv_aload_n hx hb dL_law_471 rfl (lv_at hl 1 rfl) ?_
  refine lv_aload_n hx hb dL_law_472 rfl (lv_at hl 0 rfl) ?_
  refine lv_iload hx hb dL_law_473 (lv_at hl 4 rfl) ?_
  refine lv_iconst (v := 1) hx hb dL_law_475 (by decide) ?_
  refine lv_iadd hx hb dL_law_476 ?_
  refine mh_scl cx wd hS dL_law_477 hX (fun v1 hX => ?_)
  refine lv_aload_n hx hb dL_law_478 rfl (lv_at hl 0 rfl) ?_
  refine lv_iload hx hb dL_law_479 (lv_at hl 4 rfl) ?_
  refine lv_iconst (v := 2) hx hb dL_law_481 (by decide) ?_
  refine lv_iadd hx hb dL_law_482 ?_
  refine mh_scl cx wd hS dL_law_483 hX (fun v2 hX => ?_)
  refine lv_i2l hx hb dL_law_484 rfl ?_
  refine lv_bipush (v := 32) hx hb dL_law_485 (by decide) ?_
  refine lv_lshl hx hb dL_law_487 rfl ?_
  refine lv_aload_n hx hb dL_law_488 rfl (lv_at hl 0 rfl) ?_
  refine lv_iload hx hb dL_law_489 (lv_at hl 4 rfl) ?_
  refine lv_iconst (v := 3) hx hb dL_law_491 (by decide) ?_
  refine lv_iadd hx hb dL_law_492 ?_
  refine mh_scl cx wd hS dL_law_493 hX (fun v3 hX => ?_)
  refine lv_i2l hx hb dL_law_494 rfl ?_
  refine mh_ldc2 cx kl_L_156 dL_law_495 ?_
  refine lv_land hx hb dL_law_498 ?_
  refine lv_lor hx hb dL_law_499 ?_
  refine lv_aload_n hx hb dL_law_500 rfl (lv_at hl 0 rfl) ?_
  refine lv_iload hx hb dL_law_501 (lv_at hl 4 rfl) ?_
  refine lv_iconst (v := 4) hx hb dL_law_503 (by decide) ?_
  refine lv_iadd hx hb dL_law_504 ?_
  refine mh_scl cx wd hS dL_law_505 hX (fun v4 hX => ?_)
  refine lv_aload_n hx hb dL_law_506 rfl (lv_at hl 3 rfl) ?_
  refine mh_wS cx th nc wd (K := 3) [.ref o1, .int v1, .long (((v2).toInt64 <<< (((32 : Int32)).toInt64 &&& 63)) ||| ((v3).toInt64 &&& (4294967295 : Int64))), .int v4, .ref o3] yx_L_with sw_L_162 rfl hl.1 rfl (Nat.le_of_ble_eq_true rfl) dL_law_507 ⟨Nat.le_of_ble_eq_true rfl, Nat.le_of_ble_eq_true rfl⟩ (mh_rq hc (k := 3) (j := 18) (Nat.le_of_ble_eq_true rfl) (Nat.le_of_ble_eq_true rfl)) (fun _ _ q => c_L_with q) hX (fun v6 h5 H locs wd hX => ?_)
  refine lv_istore (lv' := [(5, .int v6), (0, .ref b), (1, .ref o1), (2, .ref o2), (3, .ref o3), (4, .int x4)]) hx hb dL_law_510 hl (Nat.le_of_ble_eq_true rfl) rfl (fun ls hl => ?_)
  refine lv_aload_n hx hb dL_law_512 rfl (lv_at hl 3 rfl) ?_
  refine lv_aload_n hx hb dL_law_513 rfl (lv_at hl 1 rfl) ?_
  refine lv_iload hx hb dL_law_514 (lv_at hl 5 rfl) ?_
  refine lv_iconst (v := 1) hx hb dL_law_516 (by decide) ?_
  refine lv_iadd hx hb dL_law_517 ?_
  refine mh_scl cx wd hS dL_law_518 hX (fun v7 hX => ?_)
  refine lv_aload_n hx hb dL_law_519 rfl (lv_at hl 1 rfl) ?_
  refine lv_iload hx hb dL_law_520 (lv_at hl 5 rfl) ?_
  refine lv_iconst (v := 2) hx hb dL_law_522 (by decide) ?_
  refine lv_iadd hx hb dL_law_523 ?_
  refine mh_scl cx wd hS dL_law_524 hX (fun v8 hX => ?_)
  refine lv_i2l hx hb dL_law_525 rfl ?_
  refine lv_bipush (v := 32) hx hb dL_law_526 (by decide) ?_
  refine lv_lshl hx hb dL_law_528 rfl ?_
  refine lv_aload_n hx hb dL_law_529 rfl (lv_at hl 1 rfl) ?_
  refine lv_iload hx hb dL_law_530 (lv_at hl 5 rfl) ?_
  refine lv_iconst (v := 3) hx hb dL_law_532 (by decide) ?_
  refine lv_iadd hx hb dL_law_533 ?_
  refine mh_scl cx wd hS dL_law_534 hX (fun v9 hX => ?_)
  refine lv_i2l hx hb dL_law_535 rfl ?_
  refine mh_ldc2 cx kl_L_156 dL_law_536 ?_
  refine lv_land hx hb dL_law_539 ?_
  refine lv_lor hx hb dL_law_540 ?_
  refine lv_aload_n hx hb dL_law_541 rfl (lv_at hl 1 rfl) ?_
  refine lv_iload hx hb dL_law_542 (lv_at hl 5 rfl) ?_
  refine lv_iconst (v := 4) hx hb dL_law_544 (by decide) ?_
  refine lv_iadd hx hb dL_law_545 ?_
  refine mh_scl cx wd hS dL_law_546 hX (fun v10 hX => ?_)
  refine mh_callVJ cx wd [.int v7, .long (((v8).toInt64 <<< (((32 : Int32)).toInt64 &&& 63)) ||| ((v9).toInt64 &&& (4294967295 : Int64))), .int v10] (rfl : vwCl[12]? = some (RX12, TX12, 38)) yw_X12_with vw_L_165 rfl hl.1 rfl (Nat.le_of_ble_eq_true rfl) dL_law_547 ⟨Nat.le_of_ble_eq_true rfl, Nat.le_of_ble_eq_true rfl⟩ (mh_rq hc (k := 3) (j := 18) (Nat.le_of_ble_eq_true rfl) (Nat.le_of_ble_eq_true rfl)) (fun _ _ q => c_X12_with q) hX (fun w12 h11 H locs wd hX => ?_)
  refine lv_lstore (lv' := [(6, .long w12), (5, .int v6), (0, .ref b), (1, .ref o1), (2, .ref o2), (3, .ref o3), (4, .int x4)]) hx hb dL_law_550 hl (Nat.le_of_ble_eq_true rfl) rfl (fun ls hl => ?_)
  refine lv_aload_n hx hb dL_law_552 rfl (lv_at hl 4 rfl) ?_
  refine mh_callVI cx wd [] (rfl : vwCl[12]? = some (RX12, TX12, 38)) yw_X12_thrown vw_L_143 rfl hl.1 rfl (Nat.le_of_ble_eq_true rfl) dL_law_553 ⟨Nat.le_of_ble_eq_true rfl, Nat.le_of_ble_eq_true rfl⟩ (mh_rq hc (k := 3) (j := 18) (Nat.le_of_ble_eq_true rfl) (Nat.le_of_ble_eq_true rfl)) (fun _ _ q => c_X12_thrown q) hX (fun v14 h13 H locs wd hX => ?_)
  refine lv_iload hx hb dL_law_556 (lv_at hl 1 rfl) ?_
  refine lv_icmp_eq (tgt := 563) hx hb dL_law_558 rfl (fun hc => (fun hX => ?_) ((mh_if hX).1 hc)) (fun hc => (fun hX => ?_) ((mh_if hX).2 hc))
  · refine lv_iload hx hb dL_law_563 (lv_at hl 1 rfl) ?_
    refine lv_if_ne (tgt := 579) hx hb dL_law_565 rfl (fun hc => (fun hX => ?_) ((mh_if hX).2 hc)) (fun hc => (fun hX => ?_) ((mh_if hX).1 hc))
    · refine lv_goto (tgt := 2678) hx hb dL_law_579 rfl ?_
      cases hX
      refine W.widen (k := cells + 3) (n := slots + 18) (by omega) (by omega) ?_
      exact kk _ _ _ wd (lv_sub hl [2, 3, 4, 5, 6] rfl)
    · refine lv_aload_n hx hb dL_law_568 rfl (lv_at hl 5 rfl) ?_
      refine lv_iconst (v := 0) hx hb dL_law_569 (by decide) ?_
      refine mh_lald cx wd dL_law_570 hX (fun w15 hX => ?_)
      refine lv_lload hx hb dL_law_571 (lv_at hl 0 rfl) ?_
      refine W.lcmp hx hb dL_law_573 ?_
      refine lv_if_eq (tgt := 579) hx hb dL_law_574 rfl (fun hc => (fun hX => ?_) ((mh_if hX).1 hc)) (fun hc => (fun hX => ?_) ((mh_if hX).2 hc))
      · refine lv_goto (tgt := 2678) hx hb dL_law_579 rfl ?_
        cases hX
        refine W.widen (k := cells + 3) (n := slots + 18) (by omega) (by omega) ?_
        exact kk _ _ _ wd (lv_sub hl [2, 3, 4, 5, 6] rfl)
      · refine lv_iconst (v := 0) hx hb dL_law_577 (by decide) ?_
        cases hX
  · refine lv_iconst (v := 0) hx hb dL_law_561 (by decide) ?_
    cases hX
def f_L_k7 (xs : Nat → Int32) (N o1 o2 o3 : Nat) (x4 : Int32) (h : mh_H) : Option mh_H :=
  (mh_sc xs N (x4 + (1 : Int32))).bind fun v1 =>
  (mh_sc xs N (x4 + (2 : Int32))).bind fun v2 =>
  (mh_sc xs N (x4 + (3 : Int32))).bind fun v3 =>
  mh_b2 (f_L_greedy_e o1 v1 (((v2).toInt64 <<< (((32 : Int32)).toInt64 &&& 63)) ||| ((v3).toInt64 &&& (4294967295 : Int64))) o3 h) fun v5 h4 =>
  (mh_sc xs N (x4 + (1 : Int32))).bind fun v6 =>
  (mh_sc xs N (x4 + (2 : Int32))).bind fun v7 =>
  (mh_sc xs N (x4 + (3 : Int32))).bind fun v8 =>
  mh_b2 (mh_cal h4 o2 12 (f_X12_greedy_e o2 v6 (((v7).toInt64 <<< (((32 : Int32)).toInt64 &&& 63)) ||| ((v8).toInt64 &&& (4294967295 : Int64))) h4)) fun w10 h9 =>
  mh_b2 (mh_cal h9 o2 12 (f_X12_thrown_e o2 h9)) fun v12 h11 =>
  if v12 = v5 then (
  if v5 = 0 then (
  (mh_aJ h11 o3 (0 : Int32)).bind fun w13 =>
  if (lg_cmp w13 w10) = 0 then (
  some h11) else
  none) else
  some h11) else
  none
set_option maxRecDepth 100000 in
set_option maxHeartbeats 4000000 in
theorem w_L_k7 {p : Program} {l : Launch} {e : Env} {s : State} {m : MethodId} {args : Array Value} {below : List Frame} {meth : Method} {c : Code} {D : va_G} {ks : Nat → ClassId} {L : List Nat} {A : Nat → Prop} {b N : Nat} {xs : Nat → Int32} {o1 o2 o3 : Nat} {x4 : Int32} {h h' : mh_H} {H : Heap} {locs : List Loc} {ls : Array Slot} {cells slots : Nat} {Q : State → Prop} (cx : mh_C p m c cL_law 8 s args RL meth D ks A) (th : mh_Th l A s) (nc : mh_Nc s) (hS : va_X b N xs s s.heap ∧ b < s.heap.size ∧ ¬ A b) (hc : cells + 3 ≤ room_1.cells ∧ slots + 18 ≤ room_1.slots) (wd : mh_W D ks L A s.heap h H locs) (hl : lv_has ls 8 [(0, .ref b), (1, .ref o1), (2, .ref o2), (3, .ref o3), (4, .int x4)]) (hX : f_L_k7 xs N o1 o2 o3 x4 h = some h')
    (kk : ∀ H locs ls, mh_W D ks L A s.heap h' H locs → lv_has ls 8 [(0, .ref b), (1, .ref o1), (2, .ref o2), (3, .ref o3), (4, .int x4)] → W p l e room_1 s m args below meth c H locs (cells + 3) (slots + 18) Q (F0 m 2678 ls [])) : W p l e room_1 s m args below meth c H locs cells slots Q (F0 m 582 ls []) := by
  have hx := cx.1.1
  have hb := cx.1.2.1
  unfold f_L_k7 at hX
  refine lv_aload_n hx hb dL_law_582 rfl (lv_at hl 1 rfl) ?_
  refine lv_aload_n hx hb dL_law_583 rfl (lv_at hl 0 rfl) ?_
  refine lv_iload hx hb dL_law_584 (lv_at hl 4 rfl) ?_
  refine lv_iconst (v := 1) hx hb dL_law_586 (by decide) ?_
  refine lv_iadd hx hb dL_law_587 ?_
  refine mh_scl cx wd hS dL_law_588 hX (fun v1 hX => ?_)
  refine lv_aload_n hx hb dL_law_589 rfl (lv_at hl 0 rfl) ?_
  refine lv_iload hx hb dL_law_590 (lv_at hl 4 rfl) ?_
  refine lv_iconst (v := 2) hx hb dL_law_592 (by decide) ?_
  refine lv_iadd hx hb dL_law_593 ?_
  refine mh_scl cx wd hS dL_law_594 hX (fun v2 hX => ?_)
  refine lv_i2l hx hb dL_law_595 rfl ?_
  refine lv_bipush (v := 32) hx hb dL_law_596 (by decide) ?_
  refine lv_lshl hx hb dL_law_598 rfl ?_
  refine lv_aload_n hx hb dL_law_599 rfl (lv_at hl 0 rfl) ?_
  refine lv_iload hx hb dL_law_600 (lv_at hl 4 rfl) ?_
  refine lv_iconst (v := 3) hx hb dL_law_602 (by decide) ?_
  refine lv_iadd hx hb dL_law_603 ?_
  refine mh_scl cx wd hS dL_law_604 hX (fun v3 hX => ?_)
  refine lv_i2l hx hb dL_law_605 rfl ?_
  refine mh_ldc2 cx kl_L_156 dL_law_606 ?_
  refine lv_land hx hb dL_law_609 ?_
  refine lv_lor hx hb dL_law_610 ?_
  refine lv_aload_n hx hb dL_law_611 rfl (lv_at hl 3 rfl) ?_
  refine mh_wS cx th nc wd (K := 2) [.ref o1, .int v1, .long (((v2).toInt64 <<< (((32 : Int32)).toInt64 &&& 63)) ||| ((v3).toInt64 &&& (4294967295 : Int64))), .ref o3] yx_L_greedy sw_L_166 rfl hl.1 rfl (Nat.le_of_ble_eq_true rfl) dL_law_612 ⟨Nat.le_of_ble_eq_true rfl, Nat.le_of_ble_eq_true rfl⟩ (mh_rq hc (k := 2) (j := 12) (Nat.le_of_ble_eq_true rfl) (Nat.le_of_ble_eq_true rfl)) (fun _ _ q => c_L_greedy q) hX (fun v5 h4 H locs wd hX => ?_)
  refine lv_istore (lv' := [(5, .int v5), (0, .ref b), (1, .ref o1), (2, .ref o2), (3, .ref o3), (4, .int x4)]) hx hb dL_law_615 hl (Nat.le_of_ble_eq_true rfl) rfl (fun ls hl => ?_)
  refine lv_aload_n hx hb dL_law_617 rfl (lv_at hl 3 rfl) ?_
  refine lv_aload_n hx hb dL_law_618 rfl (lv_at hl 1 rfl) ?_
  refine lv_iload hx hb dL_law_619 (lv_at hl 5 rfl) ?_
  refine lv_iconst (v := 1) hx hb dL_law_621 (by decide) ?_
  refine lv_iadd hx hb dL_law_622 ?_
  refine mh_scl cx wd hS dL_law_623 hX (fun v6 hX => ?_)
  refine lv_aload_n hx hb dL_law_624 rfl (lv_at hl 1 rfl) ?_
  refine lv_iload hx hb dL_law_625 (lv_at hl 5 rfl) ?_
  refine lv_iconst (v := 2) hx hb dL_law_627 (by decide) ?_
  refine lv_iadd hx hb dL_law_628 ?_
  refine mh_scl cx wd hS dL_law_629 hX (fun v7 hX => ?_)
  refine lv_i2l hx hb dL_law_630 rfl ?_
  refine lv_bipush (v := 32) hx hb dL_law_631 (by decide) ?_
  refine lv_lshl hx hb dL_law_633 rfl ?_
  refine lv_aload_n hx hb dL_law_634 rfl (lv_at hl 1 rfl) ?_
  refine lv_iload hx hb dL_law_635 (lv_at hl 5 rfl) ?_
  refine lv_iconst (v := 3) hx hb dL_law_637 (by decide) ?_
  refine lv_iadd hx hb dL_law_638 ?_
  refine mh_scl cx wd hS dL_law_639 hX (fun v8 hX => ?_)
  refine lv_i2l hx hb dL_law_640 rfl ?_
  refine mh_ldc2 cx kl_L_156 dL_law_641 ?_
  refine lv_land hx hb dL_law_644 ?_
  refine lv_lor hx hb dL_law_645 ?_
  refine mh_callVJ cx wd [.int v6, .long (((v7).toInt64 <<< (((32 : Int32)).toInt64 &&& 63)) ||| ((v8).toInt64 &&& (4294967295 : Int64)))] (rfl : vwCl[12]? = some (RX12, TX12, 38)) yw_X12_greedy vw_L_168 rfl hl.1 rfl (Nat.le_of_ble_eq_true rfl) dL_law_646 ⟨Nat.le_of_ble_eq_true rfl, Nat.le_of_ble_eq_true rfl⟩ (mh_rq hc (k := 2) (j := 12) (Nat.le_of_ble_eq_true rfl) (Nat.le_of_ble_eq_true rfl)) (fun _ _ q => c_X12_greedy q) hX (fun w10 h9 H locs wd hX => ?_)
  refine lv_lstore (lv' := [(6, .long w10), (5, .int v5), (0, .ref b), (1, .ref o1), (2, .ref o2), (3, .ref o3), (4, .int x4)]) hx hb dL_law_649 hl (Nat.le_of_ble_eq_true rfl) rfl (fun ls hl => ?_)
  refine lv_aload_n hx hb dL_law_651 rfl (lv_at hl 4 rfl) ?_
  refine mh_callVI cx wd [] (rfl : vwCl[12]? = some (RX12, TX12, 38)) yw_X12_thrown vw_L_143 rfl hl.1 rfl (Nat.le_of_ble_eq_true rfl) dL_law_652 ⟨Nat.le_of_ble_eq_true rfl, Nat.le_of_ble_eq_true rfl⟩ (mh_rq hc (k := 2) (j := 12) (Nat.le_of_ble_eq_true rfl) (Nat.le_of_ble_eq_true rfl)) (fun _ _ q => c_X12_thrown q) hX (fun v12 h11 H locs wd hX => ?_)
  refine lv_iload hx hb dL_law_655 (lv_at hl 1 rfl) ?_
  refine lv_icmp_eq (tgt := 662) hx hb dL_law_657 rfl (fun hc => (fun hX => ?_) ((mh_if hX).1 hc)) (fun hc => (fun hX => ?_) ((mh_if hX).2 hc))
  · refine lv_iload hx hb dL_law_662 (lv_at hl 1 rfl) ?_
    refine lv_if_ne (tgt := 678) hx hb dL_law_664 rfl (fun hc => (fun hX => ?_) ((mh_if hX).2 hc)) (fun hc => (fun hX => ?_) ((mh_if hX).1 hc))
    · refine lv_goto (tgt := 2678) hx hb dL_law_678 rfl ?_
      cases hX
      refine W.widen (k := cells + 3) (n := slots + 18) (by omega) (by omega) ?_
      exact kk _ _ _ wd (lv_sub hl [2, 3, 4, 5, 6] rfl)
    · refine lv_aload_n hx hb dL_law_667 rfl (lv_at hl 5 rfl) ?_
      refine lv_iconst (v := 0) hx hb dL_law_668 (by decide) ?_
      refine mh_lald cx wd dL_law_669 hX (fun w13 hX => ?_)
      refine lv_lload hx hb dL_law_670 (lv_at hl 0 rfl) ?_
      refine W.lcmp hx hb dL_law_672 ?_
      refine lv_if_eq (tgt := 678) hx hb dL_law_673 rfl (fun hc => (fun hX => ?_) ((mh_if hX).1 hc)) (fun hc => (fun hX => ?_) ((mh_if hX).2 hc))
      · refine lv_goto (tgt := 2678) hx hb dL_law_678 rfl ?_
        cases hX
        refine W.widen (k := cells + 3) (n := slots + 18) (by omega) (by omega) ?_
        exact kk _ _ _ wd (lv_sub hl [2, 3, 4, 5, 6] rfl)
      · refine lv_iconst (v := 0) hx hb dL_law_676 (by decide) ?_
        cases hX
  · refine lv_iconst (v := 0) hx hb dL_law_660 (by decide) ?_
    cases hX
def f_L_k8 (xs : Nat → Int32) (N o1 o2 o3 : Nat) (x4 : Int32) (h : mh_H) : Option mh_H :=
  (mh_sc xs N (x4 + (1 : Int32))).bind fun v1 =>
  mh_b2 (f_L_always_e o1 v1 o3 h) fun v3 h2 =>
  (mh_sc xs N (x4 + (1 : Int32))).bind fun v4 =>
  mh_b2 (mh_cal h2 o2 12 (f_X12_always_e o2 v4 h2)) fun v6 h5 =>
  mh_b2 (mh_cal h5 o2 12 (f_X12_thrown_e o2 h5)) fun v8 h7 =>
  if v8 = v3 then (
  if v3 = 0 then (
  (mh_aJ h7 o3 (0 : Int32)).bind fun w9 =>
  if v6 = 0 then (
  if (lg_cmp w9 (0 : Int64)) = 0 then (
  some h7) else
  none) else
  if (lg_cmp w9 (1 : Int64)) = 0 then (
  some h7) else
  none) else
  some h7) else
  none
set_option maxRecDepth 100000 in
set_option maxHeartbeats 4000000 in
theorem w_L_k8 {p : Program} {l : Launch} {e : Env} {s : State} {m : MethodId} {args : Array Value} {below : List Frame} {meth : Method} {c : Code} {D : va_G} {ks : Nat → ClassId} {L : List Nat} {A : Nat → Prop} {b N : Nat} {xs : Nat → Int32} {o1 o2 o3 : Nat} {x4 : Int32} {h h' : mh_H} {H : Heap} {locs : List Loc} {ls : Array Slot} {cells slots : Nat} {Q : State → Prop} (cx : mh_C p m c cL_law 8 s args RL meth D ks A) (th : mh_Th l A s) (nc : mh_Nc s) (hS : va_X b N xs s s.heap ∧ b < s.heap.size ∧ ¬ A b) (hc : cells + 3 ≤ room_1.cells ∧ slots + 18 ≤ room_1.slots) (wd : mh_W D ks L A s.heap h H locs) (hl : lv_has ls 8 [(0, .ref b), (1, .ref o1), (2, .ref o2), (3, .ref o3), (4, .int x4)]) (hX : f_L_k8 xs N o1 o2 o3 x4 h = some h')
    (kk : ∀ H locs ls, mh_W D ks L A s.heap h' H locs → lv_has ls 8 [(0, .ref b), (1, .ref o1), (2, .ref o2), (3, .ref o3), (4, .int x4)] → W p l e room_1 s m args below meth c H locs (cells + 3) (slots + 18) Q (F0 m 2678 ls [])) : W p l e room_1 s m args below meth c H locs cells slots Q (F0 m 681 ls []) := by
  have hx := cx.1.1
  have hb := cx.1.2.1
  unfold f_L_k8 at hX
  refine lv_aload_n hx hb dL_law_681 rfl (lv_at hl 1 rfl) ?_
  refine lv_aload_n hx hb dL_law_682 rfl (lv_at hl 0 rfl) ?_
  refine lv_iload hx hb dL_law_683 (lv_at hl 4 rfl) ?_
  refine lv_iconst (v := 1) hx hb dL_law_685 (by decide) ?_
  refine lv_iadd hx hb dL_law_686 ?_
  refine mh_scl cx wd hS dL_law_687 hX (fun v1 hX => ?_)
  refine lv_aload_n hx hb dL_law_688 rfl (lv_at hl 3 rfl) ?_
  refine mh_wS cx th nc wd (K := 1) [.ref o1, .int v1, .ref o3] yx_L_always sw_L_169 rfl hl.1 rfl (Nat.le_of_ble_eq_true rfl) dL_law_689 ⟨Nat.le_of_ble_eq_true rfl, Nat.le_of_ble_eq_true rfl⟩ (mh_rq hc (k := 1) (j := 6) (Nat.le_of_ble_eq_true rfl) (Nat.le_of_ble_eq_true rfl)) (fun _ _ q => c_L_always q) hX (fun v3 h2 H locs wd hX => ?_)
  refine lv_istore (lv' := [(5, .int v3), (0, .ref b), (1, .ref o1), (2, .ref o2), (3, .ref o3), (4, .int x4)]) hx hb dL_law_692 hl (Nat.le_of_ble_eq_true rfl) rfl (fun ls hl => ?_)
  refine lv_aload_n hx hb dL_law_694 rfl (lv_at hl 3 rfl) ?_
  refine lv_aload_n hx hb dL_law_695 rfl (lv_at hl 1 rfl) ?_
  refine lv_iload hx hb dL_law_696 (lv_at hl 5 rfl) ?_
  refine lv_iconst (v := 1) hx hb dL_law_698 (by decide) ?_
  refine lv_iadd hx hb dL_law_699 ?_
  refine mh_scl cx wd hS dL_law_700 hX (fun v4 hX => ?_)
  refine mh_callVI cx wd [.int v4] (rfl : vwCl[12]? = some (RX12, TX12, 38)) yw_X12_always vw_L_172 rfl hl.1 rfl (Nat.le_of_ble_eq_true rfl) dL_law_701 ⟨Nat.le_of_ble_eq_true rfl, Nat.le_of_ble_eq_true rfl⟩ (mh_rq hc (k := 1) (j := 6) (Nat.le_of_ble_eq_true rfl) (Nat.le_of_ble_eq_true rfl)) (fun _ _ q => c_X12_always q) hX (fun v6 h5 H locs wd hX => ?_)
  refine lv_istore (lv' := [(6, .int v6), (5, .int v3), (0, .ref b), (1, .ref o1), (2, .ref o2), (3, .ref o3), (4, .int x4)]) hx hb dL_law_704 hl (Nat.le_of_ble_eq_true rfl) rfl (fun ls hl => ?_)
  refine lv_aload_n hx hb dL_law_706 rfl (lv_at hl 4 rfl) ?_
  refine mh_callVI cx wd [] (rfl : vwCl[12]? = some (RX12, TX12, 38)) yw_X12_thrown vw_L_143 rfl hl.1 rfl (Nat.le_of_ble_eq_true rfl) dL_law_707 ⟨Nat.le_of_ble_eq_true rfl, Nat.le_of_ble_eq_true rfl⟩ (mh_rq hc (k := 1) (j := 6) (Nat.le_of_ble_eq_true rfl) (Nat.le_of_ble_eq_true rfl)) (fun _ _ q => c_X12_thrown q) hX (fun v8 h7 H locs wd hX => ?_)
  refine lv_iload hx hb dL_law_710 (lv_at hl 1 rfl) ?_
  refine lv_icmp_eq (tgt := 717) hx hb dL_law_712 rfl (fun hc => (fun hX => ?_) ((mh_if hX).1 hc)) (fun hc => (fun hX => ?_) ((mh_if hX).2 hc))
  · refine lv_iload hx hb dL_law_717 (lv_at hl 1 rfl) ?_
    refine lv_if_ne (tgt := 741) hx hb dL_law_719 rfl (fun hc => (fun hX => ?_) ((mh_if hX).2 hc)) (fun hc => (fun hX => ?_) ((mh_if hX).1 hc))
    · refine lv_goto (tgt := 2678) hx hb dL_law_741 rfl ?_
      cases hX
      refine W.widen (k := cells + 3) (n := slots + 18) (by omega) (by omega) ?_
      exact kk _ _ _ wd (lv_sub hl [2, 3, 4, 5, 6] rfl)
    · refine lv_aload_n hx hb dL_law_722 rfl (lv_at hl 5 rfl) ?_
      refine lv_iconst (v := 0) hx hb dL_law_723 (by decide) ?_
      refine mh_lald cx wd dL_law_724 hX (fun w9 hX => ?_)
      refine lv_iload hx hb dL_law_725 (lv_at hl 0 rfl) ?_
      refine lv_if_eq (tgt := 734) hx hb dL_law_727 rfl (fun hc => (fun hX => ?_) ((mh_if hX).1 hc)) (fun hc => (fun hX => ?_) ((mh_if hX).2 hc))
      · refine lv_lconst (v := 0) hx hb dL_law_734 (by decide) ?_
        refine W.lcmp hx hb dL_law_735 ?_
        refine lv_if_eq (tgt := 741) hx hb dL_law_736 rfl (fun hc => (fun hX => ?_) ((mh_if hX).1 hc)) (fun hc => (fun hX => ?_) ((mh_if hX).2 hc))
        · refine lv_goto (tgt := 2678) hx hb dL_law_741 rfl ?_
          cases hX
          refine W.widen (k := cells + 3) (n := slots + 18) (by omega) (by omega) ?_
          exact kk _ _ _ wd (lv_sub hl [2, 3, 4, 5, 6] rfl)
        · refine lv_iconst (v := 0) hx hb dL_law_739 (by decide) ?_
          cases hX
      · refine lv_lconst (v := 1) hx hb dL_law_730 (by decide) ?_
        refine lv_goto (tgt := 735) hx hb dL_law_731 rfl ?_
        refine W.lcmp hx hb dL_law_735 ?_
        refine lv_if_eq (tgt := 741) hx hb dL_law_736 rfl (fun hc => (fun hX => ?_) ((mh_if hX).1 hc)) (fun hc => (fun hX => ?_) ((mh_if hX).2 hc))
        · refine lv_goto (tgt := 2678) hx hb dL_law_741 rfl ?_
          cases hX
          refine W.widen (k := cells + 3) (n := slots + 18) (by omega) (by omega) ?_
          exact kk _ _ _ wd (lv_sub hl [2, 3, 4, 5, 6] rfl)
        · refine lv_iconst (v := 0) hx hb dL_law_739 (by decide) ?_
          cases hX
  · refine lv_iconst (v := 0) hx hb dL_law_715 (by decide) ?_
    cases hX
def f_L_k9 (xs : Nat → Int32) (N o1 o2 o3 : Nat) (x4 : Int32) (h : mh_H) : Option mh_H :=
  (mh_sc xs N (x4 + (1 : Int32))).bind fun v1 =>
  mh_b2 (f_L_fails_e o1 v1 o3 h) fun v3 h2 =>
  (mh_sc xs N (x4 + (1 : Int32))).bind fun v4 =>
  mh_b2 (mh_cal h2 o2 12 (f_X12_fails_e o2 v4 h2)) fun v6 h5 =>
  mh_b2 (mh_cal h5 o2 12 (f_X12_thrown_e o2 h5)) fun v8 h7 =>
  if v8 = v3 then (
  if v3 = 0 then (
  (mh_aJ h7 o3 (0 : Int32)).bind fun w9 =>
  if (lg_cmp w9 ((v6).toInt64)) = 0 then (
  some h7) else
  none) else
  some h7) else
  none
set_option maxRecDepth 100000 in
set_option maxHeartbeats 4000000 in
theorem w_L_k9 {p : Program} {l : Launch} {e : Env} {s : State} {m : MethodId} {args : Array Value} {below : List Frame} {meth : Method} {c : Code} {D : va_G} {ks : Nat → ClassId} {L : List Nat} {A : Nat → Prop} {b N : Nat} {xs : Nat → Int32} {o1 o2 o3 : Nat} {x4 : Int32} {h h' : mh_H} {H : Heap} {locs : List Loc} {ls : Array Slot} {cells slots : Nat} {Q : State → Prop} (cx : mh_C p m c cL_law 8 s args RL meth D ks A) (th : mh_Th l A s) (nc : mh_Nc s) (hS : va_X b N xs s s.heap ∧ b < s.heap.size ∧ ¬ A b) (hc : cells + 3 ≤ room_1.cells ∧ slots + 18 ≤ room_1.slots) (wd : mh_W D ks L A s.heap h H locs) (hl : lv_has ls 8 [(0, .ref b), (1, .ref o1), (2, .ref o2), (3, .ref o3), (4, .int x4)]) (hX : f_L_k9 xs N o1 o2 o3 x4 h = some h')
    (kk : ∀ H locs ls, mh_W D ks L A s.heap h' H locs → lv_has ls 8 [(0, .ref b), (1, .ref o1), (2, .ref o2), (3, .ref o3), (4, .int x4)] → W p l e room_1 s m args below meth c H locs (cells + 3) (slots + 18) Q (F0 m 2678 ls [])) : W p l e room_1 s m args below meth c H locs cells slots Q (F0 m 744 ls []) := by
  have hx := cx.1.1
  have hb := cx.1.2.1
  unfold f_L_k9 at hX
  refine lv_aload_n hx hb dL_law_744 rfl (lv_at hl 1 rfl) ?_
  refine lv_aload_n hx hb dL_law_745 rfl (lv_at hl 0 rfl) ?_
  refine lv_iload hx hb dL_law_746 (lv_at hl 4 rfl) ?_
  refine lv_iconst (v := 1) hx hb dL_law_748 (by decide) ?_
  refine lv_iadd hx hb dL_law_749 ?_
  refine mh_scl cx wd hS dL_law_750 hX (fun v1 hX => ?_)
  refine lv_aload_n hx hb dL_law_751 rfl (lv_at hl 3 rfl) ?_
  refine mh_wS cx th nc wd (K := 1) [.ref o1, .int v1, .ref o3] yx_L_fails sw_L_173 rfl hl.1 rfl (Nat.le_of_ble_eq_true rfl) dL_law_752 ⟨Nat.le_of_ble_eq_true rfl, Nat.le_of_ble_eq_true rfl⟩ (mh_rq hc (k := 1) (j := 6) (Nat.le_of_ble_eq_true rfl) (Nat.le_of_ble_eq_true rfl)) (fun _ _ q => c_L_fails q) hX (fun v3 h2 H locs wd hX => ?_)
  refine lv_istore (lv' := [(5, .int v3), (0, .ref b), (1, .ref o1), (2, .ref o2), (3, .ref o3), (4, .int x4)]) hx hb dL_law_755 hl (Nat.le_of_ble_eq_true rfl) rfl (fun ls hl => ?_)
  refine lv_aload_n hx hb dL_law_757 rfl (lv_at hl 3 rfl) ?_
  refine lv_aload_n hx hb dL_law_758 rfl (lv_at hl 1 rfl) ?_
  refine lv_iload hx hb dL_law_759 (lv_at hl 5 rfl) ?_
  refine lv_iconst (v := 1) hx hb dL_law_761 (by decide) ?_
  refine lv_iadd hx hb dL_law_762 ?_
  refine mh_scl cx wd hS dL_law_763 hX (fun v4 hX => ?_)
  refine mh_callVI cx wd [.int v4] (rfl : vwCl[12]? = some (RX12, TX12, 38)) yw_X12_fails vw_L_175 rfl hl.1 rfl (Nat.le_of_ble_eq_true rfl) dL_law_764 ⟨Nat.le_of_ble_eq_true rfl, Nat.le_of_ble_eq_true rfl⟩ (mh_rq hc (k := 1) (j := 6) (Nat.le_of_ble_eq_true rfl) (Nat.le_of_ble_eq_true rfl)) (fun _ _ q => c_X12_fails q) hX (fun v6 h5 H locs wd hX => ?_)
  refine lv_istore (lv' := [(6, .int v6), (5, .int v3), (0, .ref b), (1, .ref o1), (2, .ref o2), (3, .ref o3), (4, .int x4)]) hx hb dL_law_767 hl (Nat.le_of_ble_eq_true rfl) rfl (fun ls hl => ?_)
  refine lv_aload_n hx hb dL_law_769 rfl (lv_at hl 4 rfl) ?_
  refine mh_callVI cx wd [] (rfl : vwCl[12]? = some (RX12, TX12, 38)) yw_X12_thrown vw_L_143 rfl hl.1 rfl (Nat.le_of_ble_eq_true rfl) dL_law_770 ⟨Nat.le_of_ble_eq_true rfl, Nat.le_of_ble_eq_true rfl⟩ (mh_rq hc (k := 1) (j := 6) (Nat.le_of_ble_eq_true rfl) (Nat.le_of_ble_eq_true rfl)) (fun _ _ q => c_X12_thrown q) hX (fun v8 h7 H locs wd hX => ?_)
  refine lv_iload hx hb dL_law_773 (lv_at hl 1 rfl) ?_
  refine lv_icmp_eq (tgt := 780) hx hb dL_law_775 rfl (fun hc => (fun hX => ?_) ((mh_if hX).1 hc)) (fun hc => (fun hX => ?_) ((mh_if hX).2 hc))
  · refine lv_iload hx hb dL_law_780 (lv_at hl 1 rfl) ?_
    refine lv_if_ne (tgt := 797) hx hb dL_law_782 rfl (fun hc => (fun hX => ?_) ((mh_if hX).2 hc)) (fun hc => (fun hX => ?_) ((mh_if hX).1 hc))
    · refine lv_goto (tgt := 2678) hx hb dL_law_797 rfl ?_
      cases hX
      refine W.widen (k := cells + 3) (n := slots + 18) (by omega) (by omega) ?_
      exact kk _ _ _ wd (lv_sub hl [2, 3, 4, 5, 6] rfl)
    · refine lv_aload_n hx hb dL_law_785 rfl (lv_at hl 5 rfl) ?_
      refine lv_iconst (v := 0) hx hb dL_law_786 (by decide) ?_
      refine mh_lald cx wd dL_law_787 hX (fun w9 hX => ?_)
      refine lv_iload hx hb dL_law_788 (lv_at hl 0 rfl) ?_
      refine lv_i2l hx hb dL_law_790 rfl ?_
      refine W.lcmp hx hb dL_law_791 ?_
      refine lv_if_eq (tgt := 797) hx hb dL_law_792 rfl (fun hc => (fun hX => ?_) ((mh_if hX).1 hc)) (fun hc => (fun hX => ?_) ((mh_if hX).2 hc))
      · refine lv_goto (tgt := 2678) hx hb dL_law_797 rfl ?_
        cases hX
        refine W.widen (k := cells + 3) (n := slots + 18) (by omega) (by omega) ?_
        exact kk _ _ _ wd (lv_sub hl [2, 3, 4, 5, 6] rfl)
      · refine lv_iconst (v := 0) hx hb dL_law_795 (by decide) ?_
        cases hX
  · refine lv_iconst (v := 0) hx hb dL_law_778 (by decide) ?_
    cases hX
def f_L_k10 (xs : Nat → Int32) (N o1 o2 o3 : Nat) (x4 : Int32) (h : mh_H) : Option mh_H :=
  (mh_sc xs N (x4 + (1 : Int32))).bind fun v1 =>
  mh_b2 (f_L_divisor_e o1 v1 o3 h) fun v3 h2 =>
  (mh_sc xs N (x4 + (1 : Int32))).bind fun v4 =>
  mh_b2 (mh_cal h2 o2 12 (f_X12_divisor_e o2 v4 h2)) fun v6 h5 =>
  mh_b2 (mh_cal h5 o2 12 (f_X12_thrown_e o2 h5)) fun v8 h7 =>
  if v8 = v3 then (
  if v3 = 0 then (
  (mh_aJ h7 o3 (0 : Int32)).bind fun w9 =>
  if (lg_cmp w9 ((v6).toInt64)) = 0 then (
  some h7) else
  none) else
  some h7) else
  none
set_option maxRecDepth 100000 in
set_option maxHeartbeats 4000000 in
theorem w_L_k10 {p : Program} {l : Launch} {e : Env} {s : State} {m : MethodId} {args : Array Value} {below : List Frame} {meth : Method} {c : Code} {D : va_G} {ks : Nat → ClassId} {L : List Nat} {A : Nat → Prop} {b N : Nat} {xs : Nat → Int32} {o1 o2 o3 : Nat} {x4 : Int32} {h h' : mh_H} {H : Heap} {locs : List Loc} {ls : Array Slot} {cells slots : Nat} {Q : State → Prop} (cx : mh_C p m c cL_law 8 s args RL meth D ks A) (th : mh_Th l A s) (nc : mh_Nc s) (hS : va_X b N xs s s.heap ∧ b < s.heap.size ∧ ¬ A b) (hc : cells + 3 ≤ room_1.cells ∧ slots + 18 ≤ room_1.slots) (wd : mh_W D ks L A s.heap h H locs) (hl : lv_has ls 8 [(0, .ref b), (1, .ref o1), (2, .ref o2), (3, .ref o3), (4, .int x4)]) (hX : f_L_k10 xs N o1 o2 o3 x4 h = some h')
    (kk : ∀ H locs ls, mh_W D ks L A s.heap h' H locs → lv_has ls 8 [(0, .ref b), (1, .ref o1), (2, .ref o2), (3, .ref o3), (4, .int x4)] → W p l e room_1 s m args below meth c H locs (cells + 3) (slots + 18) Q (F0 m 2678 ls [])) : W p l e room_1 s m args below meth c H locs cells slots Q (F0 m 800 ls []) := by
  have hx := cx.1.1
  have hb := cx.1.2.1
  unfold f_L_k10 at hX
  refine lv_aload_n hx hb dL_law_800 rfl (lv_at hl 1 rfl) ?_
  refine lv_aload_n hx hb dL_law_801 rfl (lv_at hl 0 rfl) ?_
  refine lv_iload hx hb dL_law_802 (lv_at hl 4 rfl) ?_
  refine lv_iconst (v := 1) hx hb dL_law_804 (by decide) ?_
  refine lv_iadd hx hb dL_law_805 ?_
  refine mh_scl cx wd hS dL_law_806 hX (fun v1 hX => ?_)
  refine lv_aload_n hx hb dL_law_807 rfl (lv_at hl 3 rfl) ?_
  refine mh_wS cx th nc wd (K := 1) [.ref o1, .int v1, .ref o3] yx_L_divisor sw_L_176 rfl hl.1 rfl (Nat.le_of_ble_eq_true rfl) dL_law_808 ⟨Nat.le_of_ble_eq_true rfl, Nat.le_of_ble_eq_true rfl⟩ (mh_rq hc (k := 1) (j := 6) (Nat.le_of_ble_eq_true rfl) (Nat.le_of_ble_eq_true rfl)) (fun _ _ q => c_L_divisor q) hX (fun v3 h2 H locs wd hX => ?_)
  refine lv_istore (lv' := [(5, .int v3), (0, .ref b), (1, .ref o1), (2, .ref o2), (3, .ref o3), (4, .int x4)]) hx hb dL_law_811 hl (Nat.le_of_ble_eq_true rfl) rfl (fun ls hl => ?_)
  refine lv_aload_n hx hb dL_law_813 rfl (lv_at hl 3 rfl) ?_
  refine lv_aload_n hx hb dL_law_814 rfl (lv_at hl 1 rfl) ?_
  refine lv_iload hx hb dL_law_815 (lv_at hl 5 rfl) ?_
  refine lv_iconst (v := 1) hx hb dL_law_817 (by decide) ?_
  refine lv_iadd hx hb dL_law_818 ?_
  refine mh_scl cx wd hS dL_law_819 hX (fun v4 hX => ?_)
  refine mh_callVI cx wd [.int v4] (rfl : vwCl[12]? = some (RX12, TX12, 38)) yw_X12_divisor vw_L_178 rfl hl.1 rfl (Nat.le_of_ble_eq_true rfl) dL_law_820 ⟨Nat.le_of_ble_eq_true rfl, Nat.le_of_ble_eq_true rfl⟩ (mh_rq hc (k := 1) (j := 6) (Nat.le_of_ble_eq_true rfl) (Nat.le_of_ble_eq_true rfl)) (fun _ _ q => c_X12_divisor q) hX (fun v6 h5 H locs wd hX => ?_)
  refine lv_istore (lv' := [(6, .int v6), (5, .int v3), (0, .ref b), (1, .ref o1), (2, .ref o2), (3, .ref o3), (4, .int x4)]) hx hb dL_law_823 hl (Nat.le_of_ble_eq_true rfl) rfl (fun ls hl => ?_)
  refine lv_aload_n hx hb dL_law_825 rfl (lv_at hl 4 rfl) ?_
  refine mh_callVI cx wd [] (rfl : vwCl[12]? = some (RX12, TX12, 38)) yw_X12_thrown vw_L_143 rfl hl.1 rfl (Nat.le_of_ble_eq_true rfl) dL_law_826 ⟨Nat.le_of_ble_eq_true rfl, Nat.le_of_ble_eq_true rfl⟩ (mh_rq hc (k := 1) (j := 6) (Nat.le_of_ble_eq_true rfl) (Nat.le_of_ble_eq_true rfl)) (fun _ _ q => c_X12_thrown q) hX (fun v8 h7 H locs wd hX => ?_)
  refine lv_iload hx hb dL_law_829 (lv_at hl 1 rfl) ?_
  refine lv_icmp_eq (tgt := 836) hx hb dL_law_831 rfl (fun hc => (fun hX => ?_) ((mh_if hX).1 hc)) (fun hc => (fun hX => ?_) ((mh_if hX).2 hc))
  · refine lv_iload hx hb dL_law_836 (lv_at hl 1 rfl) ?_
    refine lv_if_ne (tgt := 853) hx hb dL_law_838 rfl (fun hc => (fun hX => ?_) ((mh_if hX).2 hc)) (fun hc => (fun hX => ?_) ((mh_if hX).1 hc))
    · refine lv_goto (tgt := 2678) hx hb dL_law_853 rfl ?_
      cases hX
      refine W.widen (k := cells + 3) (n := slots + 18) (by omega) (by omega) ?_
      exact kk _ _ _ wd (lv_sub hl [2, 3, 4, 5, 6] rfl)
    · refine lv_aload_n hx hb dL_law_841 rfl (lv_at hl 5 rfl) ?_
      refine lv_iconst (v := 0) hx hb dL_law_842 (by decide) ?_
      refine mh_lald cx wd dL_law_843 hX (fun w9 hX => ?_)
      refine lv_iload hx hb dL_law_844 (lv_at hl 0 rfl) ?_
      refine lv_i2l hx hb dL_law_846 rfl ?_
      refine W.lcmp hx hb dL_law_847 ?_
      refine lv_if_eq (tgt := 853) hx hb dL_law_848 rfl (fun hc => (fun hX => ?_) ((mh_if hX).1 hc)) (fun hc => (fun hX => ?_) ((mh_if hX).2 hc))
      · refine lv_goto (tgt := 2678) hx hb dL_law_853 rfl ?_
        cases hX
        refine W.widen (k := cells + 3) (n := slots + 18) (by omega) (by omega) ?_
        exact kk _ _ _ wd (lv_sub hl [2, 3, 4, 5, 6] rfl)
      · refine lv_iconst (v := 0) hx hb dL_law_851 (by decide) ?_
        cases hX
  · refine lv_iconst (v := 0) hx hb dL_law_834 (by decide) ?_
    cases hX
def f_L_k11 (xs : Nat → Int32) (N o1 o2 o3 : Nat) (x4 : Int32) (h : mh_H) : Option mh_H :=
  (mh_sc xs N (x4 + (1 : Int32))).bind fun v1 =>
  mh_b2 (f_L_many_e o1 v1 o3 h) fun v3 h2 =>
  (mh_sc xs N (x4 + (1 : Int32))).bind fun v4 =>
  mh_b2 (mh_cal h2 o2 12 (f_X12_many_e o2 v4 h2)) fun w6 h5 =>
  mh_b2 (mh_cal h5 o2 12 (f_X12_thrown_e o2 h5)) fun v8 h7 =>
  if v8 = v3 then (
  if v3 = 0 then (
  (mh_aJ h7 o3 (0 : Int32)).bind fun w9 =>
  if (lg_cmp w9 w6) = 0 then (
  some h7) else
  none) else
  some h7) else
  none
set_option maxRecDepth 100000 in
set_option maxHeartbeats 4000000 in
theorem w_L_k11 {p : Program} {l : Launch} {e : Env} {s : State} {m : MethodId} {args : Array Value} {below : List Frame} {meth : Method} {c : Code} {D : va_G} {ks : Nat → ClassId} {L : List Nat} {A : Nat → Prop} {b N : Nat} {xs : Nat → Int32} {o1 o2 o3 : Nat} {x4 : Int32} {h h' : mh_H} {H : Heap} {locs : List Loc} {ls : Array Slot} {cells slots : Nat} {Q : State → Prop} (cx : mh_C p m c cL_law 8 s args RL meth D ks A) (th : mh_Th l A s) (nc : mh_Nc s) (hS : va_X b N xs s s.heap ∧ b < s.heap.size ∧ ¬ A b) (hc : cells + 3 ≤ room_1.cells ∧ slots + 18 ≤ room_1.slots) (wd : mh_W D ks L A s.heap h H locs) (hl : lv_has ls 8 [(0, .ref b), (1, .ref o1), (2, .ref o2), (3, .ref o3), (4, .int x4)]) (hX : f_L_k11 xs N o1 o2 o3 x4 h = some h')
    (kk : ∀ H locs ls, mh_W D ks L A s.heap h' H locs → lv_has ls 8 [(0, .ref b), (1, .ref o1), (2, .ref o2), (3, .ref o3), (4, .int x4)] → W p l e room_1 s m args below meth c H locs (cells + 3) (slots + 18) Q (F0 m 2678 ls [])) : W p l e room_1 s m args below meth c H locs cells slots Q (F0 m 856 ls []) := by
  have hx := cx.1.1
  have hb := cx.1.2.1
  unfold f_L_k11 at hX
  refine lv_aload_n hx hb dL_law_856 rfl (lv_at hl 1 rfl) ?_
  refine lv_aload_n hx hb dL_law_857 rfl (lv_at hl 0 rfl) ?_
  refine lv_iload hx hb dL_law_858 (lv_at hl 4 rfl) ?_
  refine lv_iconst (v := 1) hx hb dL_law_860 (by decide) ?_
  refine lv_iadd hx hb dL_law_861 ?_
  refine mh_scl cx wd hS dL_law_862 hX (fun v1 hX => ?_)
  refine lv_aload_n hx hb dL_law_863 rfl (lv_at hl 3 rfl) ?_
  refine mh_wS cx th nc wd (K := 1) [.ref o1, .int v1, .ref o3] yx_L_many sw_L_179 rfl hl.1 rfl (Nat.le_of_ble_eq_true rfl) dL_law_864 ⟨Nat.le_of_ble_eq_true rfl, Nat.le_of_ble_eq_true rfl⟩ (mh_rq hc (k := 1) (j := 6) (Nat.le_of_ble_eq_true rfl) (Nat.le_of_ble_eq_true rfl)) (fun _ _ q => c_L_many q) hX (fun v3 h2 H locs wd hX => ?_)
  refine lv_istore (lv' := [(5, .int v3), (0, .ref b), (1, .ref o1), (2, .ref o2), (3, .ref o3), (4, .int x4)]) hx hb dL_law_867 hl (Nat.le_of_ble_eq_true rfl) rfl (fun ls hl => ?_)
  refine lv_aload_n hx hb dL_law_869 rfl (lv_at hl 3 rfl) ?_
  refine lv_aload_n hx hb dL_law_870 rfl (lv_at hl 1 rfl) ?_
  refine lv_iload hx hb dL_law_871 (lv_at hl 5 rfl) ?_
  refine lv_iconst (v := 1) hx hb dL_law_873 (by decide) ?_
  refine lv_iadd hx hb dL_law_874 ?_
  refine mh_scl cx wd hS dL_law_875 hX (fun v4 hX => ?_)
  refine mh_callVJ cx wd [.int v4] (rfl : vwCl[12]? = some (RX12, TX12, 38)) yw_X12_many vw_L_181 rfl hl.1 rfl (Nat.le_of_ble_eq_true rfl) dL_law_876 ⟨Nat.le_of_ble_eq_true rfl, Nat.le_of_ble_eq_true rfl⟩ (mh_rq hc (k := 1) (j := 6) (Nat.le_of_ble_eq_true rfl) (Nat.le_of_ble_eq_true rfl)) (fun _ _ q => c_X12_many q) hX (fun w6 h5 H locs wd hX => ?_)
  refine lv_lstore (lv' := [(6, .long w6), (5, .int v3), (0, .ref b), (1, .ref o1), (2, .ref o2), (3, .ref o3), (4, .int x4)]) hx hb dL_law_879 hl (Nat.le_of_ble_eq_true rfl) rfl (fun ls hl => ?_)
  refine lv_aload_n hx hb dL_law_881 rfl (lv_at hl 4 rfl) ?_
  refine mh_callVI cx wd [] (rfl : vwCl[12]? = some (RX12, TX12, 38)) yw_X12_thrown vw_L_143 rfl hl.1 rfl (Nat.le_of_ble_eq_true rfl) dL_law_882 ⟨Nat.le_of_ble_eq_true rfl, Nat.le_of_ble_eq_true rfl⟩ (mh_rq hc (k := 1) (j := 6) (Nat.le_of_ble_eq_true rfl) (Nat.le_of_ble_eq_true rfl)) (fun _ _ q => c_X12_thrown q) hX (fun v8 h7 H locs wd hX => ?_)
  refine lv_iload hx hb dL_law_885 (lv_at hl 1 rfl) ?_
  refine lv_icmp_eq (tgt := 892) hx hb dL_law_887 rfl (fun hc => (fun hX => ?_) ((mh_if hX).1 hc)) (fun hc => (fun hX => ?_) ((mh_if hX).2 hc))
  · refine lv_iload hx hb dL_law_892 (lv_at hl 1 rfl) ?_
    refine lv_if_ne (tgt := 908) hx hb dL_law_894 rfl (fun hc => (fun hX => ?_) ((mh_if hX).2 hc)) (fun hc => (fun hX => ?_) ((mh_if hX).1 hc))
    · refine lv_goto (tgt := 2678) hx hb dL_law_908 rfl ?_
      cases hX
      refine W.widen (k := cells + 3) (n := slots + 18) (by omega) (by omega) ?_
      exact kk _ _ _ wd (lv_sub hl [2, 3, 4, 5, 6] rfl)
    · refine lv_aload_n hx hb dL_law_897 rfl (lv_at hl 5 rfl) ?_
      refine lv_iconst (v := 0) hx hb dL_law_898 (by decide) ?_
      refine mh_lald cx wd dL_law_899 hX (fun w9 hX => ?_)
      refine lv_lload hx hb dL_law_900 (lv_at hl 0 rfl) ?_
      refine W.lcmp hx hb dL_law_902 ?_
      refine lv_if_eq (tgt := 908) hx hb dL_law_903 rfl (fun hc => (fun hX => ?_) ((mh_if hX).1 hc)) (fun hc => (fun hX => ?_) ((mh_if hX).2 hc))
      · refine lv_goto (tgt := 2678) hx hb dL_law_908 rfl ?_
        cases hX
        refine W.widen (k := cells + 3) (n := slots + 18) (by omega) (by omega) ?_
        exact kk _ _ _ wd (lv_sub hl [2, 3, 4, 5, 6] rfl)
      · refine lv_iconst (v := 0) hx hb dL_law_906 (by decide) ?_
        cases hX
  · refine lv_iconst (v := 0) hx hb dL_law_890 (by decide) ?_
    cases hX
def f_L_k12 (xs : Nat → Int32) (N o1 o2 o3 : Nat) (x4 : Int32) (h : mh_H) : Option mh_H :=
  (mh_sc xs N (x4 + (1 : Int32))).bind fun v1 =>
  mh_b2 (f_L_last_e o1 v1 o3 h) fun v3 h2 =>
  (mh_sc xs N (x4 + (1 : Int32))).bind fun v4 =>
  mh_b2 (mh_cal h2 o2 12 (f_X12_last_e o2 v4 h2)) fun v6 h5 =>
  mh_b2 (mh_cal h5 o2 12 (f_X12_thrown_e o2 h5)) fun v8 h7 =>
  if v8 = v3 then (
  if v3 = 0 then (
  (mh_aJ h7 o3 (0 : Int32)).bind fun w9 =>
  if (lg_cmp w9 ((v6).toInt64)) = 0 then (
  some h7) else
  none) else
  some h7) else
  none
set_option maxRecDepth 100000 in
set_option maxHeartbeats 4000000 in
theorem w_L_k12 {p : Program} {l : Launch} {e : Env} {s : State} {m : MethodId} {args : Array Value} {below : List Frame} {meth : Method} {c : Code} {D : va_G} {ks : Nat → ClassId} {L : List Nat} {A : Nat → Prop} {b N : Nat} {xs : Nat → Int32} {o1 o2 o3 : Nat} {x4 : Int32} {h h' : mh_H} {H : Heap} {locs : List Loc} {ls : Array Slot} {cells slots : Nat} {Q : State → Prop} (cx : mh_C p m c cL_law 8 s args RL meth D ks A) (th : mh_Th l A s) (nc : mh_Nc s) (hS : va_X b N xs s s.heap ∧ b < s.heap.size ∧ ¬ A b) (hc : cells + 3 ≤ room_1.cells ∧ slots + 18 ≤ room_1.slots) (wd : mh_W D ks L A s.heap h H locs) (hl : lv_has ls 8 [(0, .ref b), (1, .ref o1), (2, .ref o2), (3, .ref o3), (4, .int x4)]) (hX : f_L_k12 xs N o1 o2 o3 x4 h = some h')
    (kk : ∀ H locs ls, mh_W D ks L A s.heap h' H locs → lv_has ls 8 [(0, .ref b), (1, .ref o1), (2, .ref o2), (3, .ref o3), (4, .int x4)] → W p l e room_1 s m args below meth c H locs (cells + 3) (slots + 18) Q (F0 m 2678 ls [])) : W p l e room_1 s m args below meth c H locs cells slots Q (F0 m 911 ls []) := by
  have hx := cx.1.1
  have hb := cx.1.2.1
  unfold f_L_k12 at hX
  refine lv_aload_n hx hb dL_law_911 rfl (lv_at hl 1 rfl) ?_
  refine lv_aload_n hx hb dL_law_912 rfl (lv_at hl 0 rfl) ?_
  refine lv_iload hx hb dL_law_913 (lv_at hl 4 rfl) ?_
  refine lv_iconst (v := 1) hx hb dL_law_915 (by decide) ?_
  refine lv_iadd hx hb dL_law_916 ?_
  refine mh_scl cx wd hS dL_law_917 hX (fun v1 hX => ?_)
  refine lv_aload_n hx hb dL_law_918 rfl (lv_at hl 3 rfl) ?_
  refine mh_wS cx th nc wd (K := 1) [.ref o1, .int v1, .ref o3] yx_L_last sw_L_182 rfl hl.1 rfl (Nat.le_of_ble_eq_true rfl) dL_law_919 ⟨Nat.le_of_ble_eq_true rfl, Nat.le_of_ble_eq_true rfl⟩ (mh_rq hc (k := 1) (j := 6) (Nat.le_of_ble_eq_true rfl) (Nat.le_of_ble_eq_true rfl)) (fun _ _ q => c_L_last q) hX (fun v3 h2 H locs wd hX => ?_)
  refine lv_istore (lv' := [(5, .int v3), (0, .ref b), (1, .ref o1), (2, .ref o2), (3, .ref o3), (4, .int x4)]) hx hb dL_law_922 hl (Nat.le_of_ble_eq_true rfl) rfl (fun ls hl => ?_)
  refine lv_aload_n hx hb dL_law_924 rfl (lv_at hl 3 rfl) ?_
  refine lv_aload_n hx hb dL_law_925 rfl (lv_at hl 1 rfl) ?_
  refine lv_iload hx hb dL_law_926 (lv_at hl 5 rfl) ?_
  refine lv_iconst (v := 1) hx hb dL_law_928 (by decide) ?_
  refine lv_iadd hx hb dL_law_929 ?_
  refine mh_scl cx wd hS dL_law_930 hX (fun v4 hX => ?_)
  refine mh_callVI cx wd [.int v4] (rfl : vwCl[12]? = some (RX12, TX12, 38)) yw_X12_last vw_L_184 rfl hl.1 rfl (Nat.le_of_ble_eq_true rfl) dL_law_931 ⟨Nat.le_of_ble_eq_true rfl, Nat.le_of_ble_eq_true rfl⟩ (mh_rq hc (k := 1) (j := 6) (Nat.le_of_ble_eq_true rfl) (Nat.le_of_ble_eq_true rfl)) (fun _ _ q => c_X12_last q) hX (fun v6 h5 H locs wd hX => ?_)
  refine lv_istore (lv' := [(6, .int v6), (5, .int v3), (0, .ref b), (1, .ref o1), (2, .ref o2), (3, .ref o3), (4, .int x4)]) hx hb dL_law_934 hl (Nat.le_of_ble_eq_true rfl) rfl (fun ls hl => ?_)
  refine lv_aload_n hx hb dL_law_936 rfl (lv_at hl 4 rfl) ?_
  refine mh_callVI cx wd [] (rfl : vwCl[12]? = some (RX12, TX12, 38)) yw_X12_thrown vw_L_143 rfl hl.1 rfl (Nat.le_of_ble_eq_true rfl) dL_law_937 ⟨Nat.le_of_ble_eq_true rfl, Nat.le_of_ble_eq_true rfl⟩ (mh_rq hc (k := 1) (j := 6) (Nat.le_of_ble_eq_true rfl) (Nat.le_of_ble_eq_true rfl)) (fun _ _ q => c_X12_thrown q) hX (fun v8 h7 H locs wd hX => ?_)
  refine lv_iload hx hb dL_law_940 (lv_at hl 1 rfl) ?_
  refine lv_icmp_eq (tgt := 947) hx hb dL_law_942 rfl (fun hc => (fun hX => ?_) ((mh_if hX).1 hc)) (fun hc => (fun hX => ?_) ((mh_if hX).2 hc))
  · refine lv_iload hx hb dL_law_947 (lv_at hl 1 rfl) ?_
    refine lv_if_ne (tgt := 964) hx hb dL_law_949 rfl (fun hc => (fun hX => ?_) ((mh_if hX).2 hc)) (fun hc => (fun hX => ?_) ((mh_if hX).1 hc))
    · refine lv_goto (tgt := 2678) hx hb dL_law_964 rfl ?_
      cases hX
      refine W.widen (k := cells + 3) (n := slots + 18) (by omega) (by omega) ?_
      exact kk _ _ _ wd (lv_sub hl [2, 3, 4, 5, 6] rfl)
    · refine lv_aload_n hx hb dL_law_952 rfl (lv_at hl 5 rfl) ?_
      refine lv_iconst (v := 0) hx hb dL_law_953 (by decide) ?_
      refine mh_lald cx wd dL_law_954 hX (fun w9 hX => ?_)
      refine lv_iload hx hb dL_law_955 (lv_at hl 0 rfl) ?_
      refine lv_i2l hx hb dL_law_957 rfl ?_
      refine W.lcmp hx hb dL_law_958 ?_
      refine lv_if_eq (tgt := 964) hx hb dL_law_959 rfl (fun hc => (fun hX => ?_) ((mh_if hX).1 hc)) (fun hc => (fun hX => ?_) ((mh_if hX).2 hc))
      · refine lv_goto (tgt := 2678) hx hb dL_law_964 rfl ?_
        cases hX
        refine W.widen (k := cells + 3) (n := slots + 18) (by omega) (by omega) ?_
        exact kk _ _ _ wd (lv_sub hl [2, 3, 4, 5, 6] rfl)
      · refine lv_iconst (v := 0) hx hb dL_law_962 (by decide) ?_
        cases hX
  · refine lv_iconst (v := 0) hx hb dL_law_945 (by decide) ?_
    cases hX
def f_L_k13 (xs : Nat → Int32) (N o1 o2 o3 : Nat) (x4 : Int32) (h : mh_H) : Option mh_H :=
  (mh_sc xs N (x4 + (1 : Int32))).bind fun v1 =>
  (mh_sc xs N (x4 + (2 : Int32))).bind fun v2 =>
  mh_b2 (f_L_gap_e o1 v1 v2 o3 h) fun v4 h3 =>
  (mh_sc xs N (x4 + (1 : Int32))).bind fun v5 =>
  (mh_sc xs N (x4 + (2 : Int32))).bind fun v6 =>
  mh_b2 (mh_cal h3 o2 12 (f_X12_gap_e o2 v5 v6 h3)) fun v8 h7 =>
  mh_b2 (mh_cal h7 o2 12 (f_X12_thrown_e o2 h7)) fun v10 h9 =>
  if v10 = v4 then (
  if v4 = 0 then (
  (mh_aJ h9 o3 (0 : Int32)).bind fun w11 =>
  if (lg_cmp w11 ((v8).toInt64)) = 0 then (
  some h9) else
  none) else
  some h9) else
  none
set_option maxRecDepth 100000 in
set_option maxHeartbeats 4000000 in
theorem w_L_k13 {p : Program} {l : Launch} {e : Env} {s : State} {m : MethodId} {args : Array Value} {below : List Frame} {meth : Method} {c : Code} {D : va_G} {ks : Nat → ClassId} {L : List Nat} {A : Nat → Prop} {b N : Nat} {xs : Nat → Int32} {o1 o2 o3 : Nat} {x4 : Int32} {h h' : mh_H} {H : Heap} {locs : List Loc} {ls : Array Slot} {cells slots : Nat} {Q : State → Prop} (cx : mh_C p m c cL_law 8 s args RL meth D ks A) (th : mh_Th l A s) (nc : mh_Nc s) (hS : va_X b N xs s s.heap ∧ b < s.heap.size ∧ ¬ A b) (hc : cells + 3 ≤ room_1.cells ∧ slots + 18 ≤ room_1.slots) (wd : mh_W D ks L A s.heap h H locs) (hl : lv_has ls 8 [(0, .ref b), (1, .ref o1), (2, .ref o2), (3, .ref o3), (4, .int x4)]) (hX : f_L_k13 xs N o1 o2 o3 x4 h = some h')
    (kk : ∀ H locs ls, mh_W D ks L A s.heap h' H locs → lv_has ls 8 [(0, .ref b), (1, .ref o1), (2, .ref o2), (3, .ref o3), (4, .int x4)] → W p l e room_1 s m args below meth c H locs (cells + 3) (slots + 18) Q (F0 m 2678 ls [])) : W p l e room_1 s m args below meth c H locs cells slots Q (F0 m 967 ls []) := by
  have hx := cx.1.1
  have hb := cx.1.2.1
  unfold f_L_k13 at hX
  refine lv_aload_n hx hb dL_law_967 rfl (lv_at hl 1 rfl) ?_
  refine lv_aload_n hx hb dL_law_968 rfl (lv_at hl 0 rfl) ?_
  refine lv_iload hx hb dL_law_969 (lv_at hl 4 rfl) ?_
  refine lv_iconst (v := 1) hx hb dL_law_971 (by decide) ?_
  refine lv_iadd hx hb dL_law_972 ?_
  refine mh_scl cx wd hS dL_law_973 hX (fun v1 hX => ?_)
  refine lv_aload_n hx hb dL_law_974 rfl (lv_at hl 0 rfl) ?_
  refine lv_iload hx hb dL_law_975 (lv_at hl 4 rfl) ?_
  refine lv_iconst (v := 2) hx hb dL_law_977 (by decide) ?_
  refine lv_iadd hx hb dL_law_978 ?_
  refine mh_scl cx wd hS dL_law_979 hX (fun v2 hX => ?_)
  refine lv_aload_n hx hb dL_law_980 rfl (lv_at hl 3 rfl) ?_
  refine mh_wS cx th nc wd (K := 2) [.ref o1, .int v1, .int v2, .ref o3] yx_L_gap sw_L_185 rfl hl.1 rfl (Nat.le_of_ble_eq_true rfl) dL_law_981 ⟨Nat.le_of_ble_eq_true rfl, Nat.le_of_ble_eq_true rfl⟩ (mh_rq hc (k := 2) (j := 12) (Nat.le_of_ble_eq_true rfl) (Nat.le_of_ble_eq_true rfl)) (fun _ _ q => c_L_gap q) hX (fun v4 h3 H locs wd hX => ?_)
  refine lv_istore (lv' := [(5, .int v4), (0, .ref b), (1, .ref o1), (2, .ref o2), (3, .ref o3), (4, .int x4)]) hx hb dL_law_984 hl (Nat.le_of_ble_eq_true rfl) rfl (fun ls hl => ?_)
  refine lv_aload_n hx hb dL_law_986 rfl (lv_at hl 3 rfl) ?_
  refine lv_aload_n hx hb dL_law_987 rfl (lv_at hl 1 rfl) ?_
  refine lv_iload hx hb dL_law_988 (lv_at hl 5 rfl) ?_
  refine lv_iconst (v := 1) hx hb dL_law_990 (by decide) ?_
  refine lv_iadd hx hb dL_law_991 ?_
  refine mh_scl cx wd hS dL_law_992 hX (fun v5 hX => ?_)
  refine lv_aload_n hx hb dL_law_993 rfl (lv_at hl 1 rfl) ?_
  refine lv_iload hx hb dL_law_994 (lv_at hl 5 rfl) ?_
  refine lv_iconst (v := 2) hx hb dL_law_996 (by decide) ?_
  refine lv_iadd hx hb dL_law_997 ?_
  refine mh_scl cx wd hS dL_law_998 hX (fun v6 hX => ?_)
  refine mh_callVI cx wd [.int v5, .int v6] (rfl : vwCl[12]? = some (RX12, TX12, 38)) yw_X12_gap vw_L_187 rfl hl.1 rfl (Nat.le_of_ble_eq_true rfl) dL_law_999 ⟨Nat.le_of_ble_eq_true rfl, Nat.le_of_ble_eq_true rfl⟩ (mh_rq hc (k := 2) (j := 12) (Nat.le_of_ble_eq_true rfl) (Nat.le_of_ble_eq_true rfl)) (fun _ _ q => c_X12_gap q) hX (fun v8 h7 H locs wd hX => ?_)
  refine lv_istore (lv' := [(6, .int v8), (5, .int v4), (0, .ref b), (1, .ref o1), (2, .ref o2), (3, .ref o3), (4, .int x4)]) hx hb dL_law_1002 hl (Nat.le_of_ble_eq_true rfl) rfl (fun ls hl => ?_)
  refine lv_aload_n hx hb dL_law_1004 rfl (lv_at hl 4 rfl) ?_
  refine mh_callVI cx wd [] (rfl : vwCl[12]? = some (RX12, TX12, 38)) yw_X12_thrown vw_L_143 rfl hl.1 rfl (Nat.le_of_ble_eq_true rfl) dL_law_1005 ⟨Nat.le_of_ble_eq_true rfl, Nat.le_of_ble_eq_true rfl⟩ (mh_rq hc (k := 2) (j := 12) (Nat.le_of_ble_eq_true rfl) (Nat.le_of_ble_eq_true rfl)) (fun _ _ q => c_X12_thrown q) hX (fun v10 h9 H locs wd hX => ?_)
  refine lv_iload hx hb dL_law_1008 (lv_at hl 1 rfl) ?_
  refine lv_icmp_eq (tgt := 1015) hx hb dL_law_1010 rfl (fun hc => (fun hX => ?_) ((mh_if hX).1 hc)) (fun hc => (fun hX => ?_) ((mh_if hX).2 hc))
  · refine lv_iload hx hb dL_law_1015 (lv_at hl 1 rfl) ?_
    refine lv_if_ne (tgt := 1032) hx hb dL_law_1017 rfl (fun hc => (fun hX => ?_) ((mh_if hX).2 hc)) (fun hc => (fun hX => ?_) ((mh_if hX).1 hc))
    · refine lv_goto (tgt := 2678) hx hb dL_law_1032 rfl ?_
      cases hX
      refine W.widen (k := cells + 3) (n := slots + 18) (by omega) (by omega) ?_
      exact kk _ _ _ wd (lv_sub hl [2, 3, 4, 5, 6] rfl)
    · refine lv_aload_n hx hb dL_law_1020 rfl (lv_at hl 5 rfl) ?_
      refine lv_iconst (v := 0) hx hb dL_law_1021 (by decide) ?_
      refine mh_lald cx wd dL_law_1022 hX (fun w11 hX => ?_)
      refine lv_iload hx hb dL_law_1023 (lv_at hl 0 rfl) ?_
      refine lv_i2l hx hb dL_law_1025 rfl ?_
      refine W.lcmp hx hb dL_law_1026 ?_
      refine lv_if_eq (tgt := 1032) hx hb dL_law_1027 rfl (fun hc => (fun hX => ?_) ((mh_if hX).1 hc)) (fun hc => (fun hX => ?_) ((mh_if hX).2 hc))
      · refine lv_goto (tgt := 2678) hx hb dL_law_1032 rfl ?_
        cases hX
        refine W.widen (k := cells + 3) (n := slots + 18) (by omega) (by omega) ?_
        exact kk _ _ _ wd (lv_sub hl [2, 3, 4, 5, 6] rfl)
      · refine lv_iconst (v := 0) hx hb dL_law_1030 (by decide) ?_
        cases hX
  · refine lv_iconst (v := 0) hx hb dL_law_1013 (by decide) ?_
    cases hX
def f_L_k14 (xs : Nat → Int32) (N o1 o2 o3 : Nat) (x4 : Int32) (h : mh_H) : Option mh_H :=
  (mh_sc xs N (x4 + (1 : Int32))).bind fun v1 =>
  (mh_sc xs N (x4 + (2 : Int32))).bind fun v2 =>
  mh_b2 (f_L_rest_e o1 v1 v2 o3 h) fun v4 h3 =>
  (mh_sc xs N (x4 + (1 : Int32))).bind fun v5 =>
  (mh_sc xs N (x4 + (2 : Int32))).bind fun v6 =>
  mh_b2 (mh_cal h3 o2 12 (f_X12_rest_e o2 v5 v6 h3)) fun v8 h7 =>
  mh_b2 (mh_cal h7 o2 12 (f_X12_thrown_e o2 h7)) fun v10 h9 =>
  if v10 = v4 then (
  if v4 = 0 then (
  (mh_aJ h9 o3 (0 : Int32)).bind fun w11 =>
  if (lg_cmp w11 ((v8).toInt64)) = 0 then (
  some h9) else
  none) else
  some h9) else
  none
set_option maxRecDepth 100000 in
set_option maxHeartbeats 4000000 in
theorem w_L_k14 {p : Program} {l : Launch} {e : Env} {s : State} {m : MethodId} {args : Array Value} {below : List Frame} {meth : Method} {c : Code} {D : va_G} {ks : Nat → ClassId} {L : List Nat} {A : Nat → Prop} {b N : Nat} {xs : Nat → Int32} {o1 o2 o3 : Nat} {x4 : Int32} {h h' : mh_H} {H : Heap} {locs : List Loc} {ls : Array Slot} {cells slots : Nat} {Q : State → Prop} (cx : mh_C p m c cL_law 8 s args RL meth D ks A) (th : mh_Th l A s) (nc : mh_Nc s) (hS : va_X b N xs s s.heap ∧ b < s.heap.size ∧ ¬ A b) (hc : cells + 3 ≤ room_1.cells ∧ slots + 18 ≤ room_1.slots) (wd : mh_W D ks L A s.heap h H locs) (hl : lv_has ls 8 [(0, .ref b), (1, .ref o1), (2, .ref o2), (3, .ref o3), (4, .int x4)]) (hX : f_L_k14 xs N o1 o2 o3 x4 h = some h')
    (kk : ∀ H locs ls, mh_W D ks L A s.heap h' H locs → lv_has ls 8 [(0, .ref b), (1, .ref o1), (2, .ref o2), (3, .ref o3), (4, .int x4)] → W p l e room_1 s m args below meth c H locs (cells + 3) (slots + 18) Q (F0 m 2678 ls [])) : W p l e room_1 s m args below meth c H locs cells slots Q (F0 m 1035 ls []) := by
  have hx := cx.1.1
  have hb := cx.1.2.1
  unfold f_L_k14 at hX
  refine lv_aload_n hx hb dL_law_1035 rfl (lv_at hl 1 rfl) ?_
  refine lv_aload_n hx hb dL_law_1036 rfl (lv_at hl 0 rfl) ?_
  refine lv_iload hx hb dL_law_1037 (lv_at hl 4 rfl) ?_
  refine lv_iconst (v := 1) hx hb dL_law_1039 (by decide) ?_
  refine lv_iadd hx hb dL_law_1040 ?_
  refine mh_scl cx wd hS dL_law_1041 hX (fun v1 hX => ?_)
  refine lv_aload_n hx hb dL_law_1042 rfl (lv_at hl 0 rfl) ?_
  refine lv_iload hx hb dL_law_1043 (lv_at hl 4 rfl) ?_
  refine lv_iconst (v := 2) hx hb dL_law_1045 (by decide) ?_
  refine lv_iadd hx hb dL_law_1046 ?_
  refine mh_scl cx wd hS dL_law_1047 hX (fun v2 hX => ?_)
  refine lv_aload_n hx hb dL_law_1048 rfl (lv_at hl 3 rfl) ?_
  refine mh_wS cx th nc wd (K := 2) [.ref o1, .int v1, .int v2, .ref o3] yx_L_rest sw_L_188 rfl hl.1 rfl (Nat.le_of_ble_eq_true rfl) dL_law_1049 ⟨Nat.le_of_ble_eq_true rfl, Nat.le_of_ble_eq_true rfl⟩ (mh_rq hc (k := 2) (j := 12) (Nat.le_of_ble_eq_true rfl) (Nat.le_of_ble_eq_true rfl)) (fun _ _ q => c_L_rest q) hX (fun v4 h3 H locs wd hX => ?_)
  refine lv_istore (lv' := [(5, .int v4), (0, .ref b), (1, .ref o1), (2, .ref o2), (3, .ref o3), (4, .int x4)]) hx hb dL_law_1052 hl (Nat.le_of_ble_eq_true rfl) rfl (fun ls hl => ?_)
  refine lv_aload_n hx hb dL_law_1054 rfl (lv_at hl 3 rfl) ?_
  refine lv_aload_n hx hb dL_law_1055 rfl (lv_at hl 1 rfl) ?_
  refine lv_iload hx hb dL_law_1056 (lv_at hl 5 rfl) ?_
  refine lv_iconst (v := 1) hx hb dL_law_1058 (by decide) ?_
  refine lv_iadd hx hb dL_law_1059 ?_
  refine mh_scl cx wd hS dL_law_1060 hX (fun v5 hX => ?_)
  refine lv_aload_n hx hb dL_law_1061 rfl (lv_at hl 1 rfl) ?_
  refine lv_iload hx hb dL_law_1062 (lv_at hl 5 rfl) ?_
  refine lv_iconst (v := 2) hx hb dL_law_1064 (by decide) ?_
  refine lv_iadd hx hb dL_law_1065 ?_
  refine mh_scl cx wd hS dL_law_1066 hX (fun v6 hX => ?_)
  refine mh_callVI cx wd [.int v5, .int v6] (rfl : vwCl[12]? = some (RX12, TX12, 38)) yw_X12_rest vw_L_190 rfl hl.1 rfl (Nat.le_of_ble_eq_true rfl) dL_law_1067 ⟨Nat.le_of_ble_eq_true rfl, Nat.le_of_ble_eq_true rfl⟩ (mh_rq hc (k := 2) (j := 12) (Nat.le_of_ble_eq_true rfl) (Nat.le_of_ble_eq_true rfl)) (fun _ _ q => c_X12_rest q) hX (fun v8 h7 H locs wd hX => ?_)
  refine lv_istore (lv' := [(6, .int v8), (5, .int v4), (0, .ref b), (1, .ref o1), (2, .ref o2), (3, .ref o3), (4, .int x4)]) hx hb dL_law_1070 hl (Nat.le_of_ble_eq_true rfl) rfl (fun ls hl => ?_)
  refine lv_aload_n hx hb dL_law_1072 rfl (lv_at hl 4 rfl) ?_
  refine mh_callVI cx wd [] (rfl : vwCl[12]? = some (RX12, TX12, 38)) yw_X12_thrown vw_L_143 rfl hl.1 rfl (Nat.le_of_ble_eq_true rfl) dL_law_1073 ⟨Nat.le_of_ble_eq_true rfl, Nat.le_of_ble_eq_true rfl⟩ (mh_rq hc (k := 2) (j := 12) (Nat.le_of_ble_eq_true rfl) (Nat.le_of_ble_eq_true rfl)) (fun _ _ q => c_X12_thrown q) hX (fun v10 h9 H locs wd hX => ?_)
  refine lv_iload hx hb dL_law_1076 (lv_at hl 1 rfl) ?_
  refine lv_icmp_eq (tgt := 1083) hx hb dL_law_1078 rfl (fun hc => (fun hX => ?_) ((mh_if hX).1 hc)) (fun hc => (fun hX => ?_) ((mh_if hX).2 hc))
  · refine lv_iload hx hb dL_law_1083 (lv_at hl 1 rfl) ?_
    refine lv_if_ne (tgt := 1100) hx hb dL_law_1085 rfl (fun hc => (fun hX => ?_) ((mh_if hX).2 hc)) (fun hc => (fun hX => ?_) ((mh_if hX).1 hc))
    · refine lv_goto (tgt := 2678) hx hb dL_law_1100 rfl ?_
      cases hX
      refine W.widen (k := cells + 3) (n := slots + 18) (by omega) (by omega) ?_
      exact kk _ _ _ wd (lv_sub hl [2, 3, 4, 5, 6] rfl)
    · refine lv_aload_n hx hb dL_law_1088 rfl (lv_at hl 5 rfl) ?_
      refine lv_iconst (v := 0) hx hb dL_law_1089 (by decide) ?_
      refine mh_lald cx wd dL_law_1090 hX (fun w11 hX => ?_)
      refine lv_iload hx hb dL_law_1091 (lv_at hl 0 rfl) ?_
      refine lv_i2l hx hb dL_law_1093 rfl ?_
      refine W.lcmp hx hb dL_law_1094 ?_
      refine lv_if_eq (tgt := 1100) hx hb dL_law_1095 rfl (fun hc => (fun hX => ?_) ((mh_if hX).1 hc)) (fun hc => (fun hX => ?_) ((mh_if hX).2 hc))
      · refine lv_goto (tgt := 2678) hx hb dL_law_1100 rfl ?_
        cases hX
        refine W.widen (k := cells + 3) (n := slots + 18) (by omega) (by omega) ?_
        exact kk _ _ _ wd (lv_sub hl [2, 3, 4, 5, 6] rfl)
      · refine lv_iconst (v := 0) hx hb dL_law_1098 (by decide) ?_
        cases hX
  · refine lv_iconst (v := 0) hx hb dL_law_1081 (by decide) ?_
    cases hX
def f_L_k15 (xs : Nat → Int32) (N o1 o2 o3 : Nat) (x4 : Int32) (h : mh_H) : Option mh_H :=
  (mh_sc xs N (x4 + (1 : Int32))).bind fun v1 =>
  mh_b2 (f_L_mirror_e o1 v1 o3 h) fun v3 h2 =>
  (mh_sc xs N (x4 + (1 : Int32))).bind fun v4 =>
  mh_b2 (mh_cal h2 o2 12 (f_X12_mirror_e o2 v4 h2)) fun v6 h5 =>
  mh_b2 (mh_cal h5 o2 12 (f_X12_thrown_e o2 h5)) fun v8 h7 =>
  if v8 = v3 then (
  if v3 = 0 then (
  (mh_aJ h7 o3 (0 : Int32)).bind fun w9 =>
  if v6 = 0 then (
  if (lg_cmp w9 (0 : Int64)) = 0 then (
  some h7) else
  none) else
  if (lg_cmp w9 (1 : Int64)) = 0 then (
  some h7) else
  none) else
  some h7) else
  none
set_option maxRecDepth 100000 in
set_option maxHeartbeats 4000000 in
theorem w_L_k15 {p : Program} {l : Launch} {e : Env} {s : State} {m : MethodId} {args : Array Value} {below : List Frame} {meth : Method} {c : Code} {D : va_G} {ks : Nat → ClassId} {L : List Nat} {A : Nat → Prop} {b N : Nat} {xs : Nat → Int32} {o1 o2 o3 : Nat} {x4 : Int32} {h h' : mh_H} {H : Heap} {locs : List Loc} {ls : Array Slot} {cells slots : Nat} {Q : State → Prop} (cx : mh_C p m c cL_law 8 s args RL meth D ks A) (th : mh_Th l A s) (nc : mh_Nc s) (hS : va_X b N xs s s.heap ∧ b < s.heap.size ∧ ¬ A b) (hc : cells + 3 ≤ room_1.cells ∧ slots + 18 ≤ room_1.slots) (wd : mh_W D ks L A s.heap h H locs) (hl : lv_has ls 8 [(0, .ref b), (1, .ref o1), (2, .ref o2), (3, .ref o3), (4, .int x4)]) (hX : f_L_k15 xs N o1 o2 o3 x4 h = some h')
    (kk : ∀ H locs ls, mh_W D ks L A s.heap h' H locs → lv_has ls 8 [(0, .ref b), (1, .ref o1), (2, .ref o2), (3, .ref o3), (4, .int x4)] → W p l e room_1 s m args below meth c H locs (cells + 3) (slots + 18) Q (F0 m 2678 ls [])) : W p l e room_1 s m args below meth c H locs cells slots Q (F0 m 1103 ls []) := by
  have hx := cx.1.1
  have hb := cx.1.2.1
  unfold f_L_k15 at hX
  refine lv_aload_n hx hb dL_law_1103 rfl (lv_at hl 1 rfl) ?_
  refine lv_aload_n hx hb dL_law_1104 rfl (lv_at hl 0 rfl) ?_
  refine lv_iload hx hb dL_law_1105 (lv_at hl 4 rfl) ?_
  refine lv_iconst (v := 1) hx hb dL_law_1107 (by decide) ?_
  refine lv_iadd hx hb dL_law_1108 ?_
  refine mh_scl cx wd hS dL_law_1109 hX (fun v1 hX => ?_)
  refine lv_aload_n hx hb dL_law_1110 rfl (lv_at hl 3 rfl) ?_
  refine mh_wS cx th nc wd (K := 1) [.ref o1, .int v1, .ref o3] yx_L_mirror sw_L_191 rfl hl.1 rfl (Nat.le_of_ble_eq_true rfl) dL_law_1111 ⟨Nat.le_of_ble_eq_true rfl, Nat.le_of_ble_eq_true rfl⟩ (mh_rq hc (k := 1) (j := 6) (Nat.le_of_ble_eq_true rfl) (Nat.le_of_ble_eq_true rfl)) (fun _ _ q => c_L_mirror q) hX (fun v3 h2 H locs wd hX => ?_)
  refine lv_istore (lv' := [(5, .int v3), (0, .ref b), (1, .ref o1), (2, .ref o2), (3, .ref o3), (4, .int x4)]) hx hb dL_law_1114 hl (Nat.le_of_ble_eq_true rfl) rfl (fun ls hl => ?_)
  refine lv_aload_n hx hb dL_law_1116 rfl (lv_at hl 3 rfl) ?_
  refine lv_aload_n hx hb dL_law_1117 rfl (lv_at hl 1 rfl) ?_
  refine lv_iload hx hb dL_law_1118 (lv_at hl 5 rfl) ?_
  refine lv_iconst (v := 1) hx hb dL_law_1120 (by decide) ?_
  refine lv_iadd hx hb dL_law_1121 ?_
  refine mh_scl cx wd hS dL_law_1122 hX (fun v4 hX => ?_)
  refine mh_callVI cx wd [.int v4] (rfl : vwCl[12]? = some (RX12, TX12, 38)) yw_X12_mirror vw_L_193 rfl hl.1 rfl (Nat.le_of_ble_eq_true rfl) dL_law_1123 ⟨Nat.le_of_ble_eq_true rfl, Nat.le_of_ble_eq_true rfl⟩ (mh_rq hc (k := 1) (j := 6) (Nat.le_of_ble_eq_true rfl) (Nat.le_of_ble_eq_true rfl)) (fun _ _ q => c_X12_mirror q) hX (fun v6 h5 H locs wd hX => ?_)
  refine lv_istore (lv' := [(6, .int v6), (5, .int v3), (0, .ref b), (1, .ref o1), (2, .ref o2), (3, .ref o3), (4, .int x4)]) hx hb dL_law_1126 hl (Nat.le_of_ble_eq_true rfl) rfl (fun ls hl => ?_)
  refine lv_aload_n hx hb dL_law_1128 rfl (lv_at hl 4 rfl) ?_
  refine mh_callVI cx wd [] (rfl : vwCl[12]? = some (RX12, TX12, 38)) yw_X12_thrown vw_L_143 rfl hl.1 rfl (Nat.le_of_ble_eq_true rfl) dL_law_1129 ⟨Nat.le_of_ble_eq_true rfl, Nat.le_of_ble_eq_true rfl⟩ (mh_rq hc (k := 1) (j := 6) (Nat.le_of_ble_eq_true rfl) (Nat.le_of_ble_eq_true rfl)) (fun _ _ q => c_X12_thrown q) hX (fun v8 h7 H locs wd hX => ?_)
  refine lv_iload hx hb dL_law_1132 (lv_at hl 1 rfl) ?_
  refine lv_icmp_eq (tgt := 1139) hx hb dL_law_1134 rfl (fun hc => (fun hX => ?_) ((mh_if hX).1 hc)) (fun hc => (fun hX => ?_) ((mh_if hX).2 hc))
  · refine lv_iload hx hb dL_law_1139 (lv_at hl 1 rfl) ?_
    refine lv_if_ne (tgt := 1163) hx hb dL_law_1141 rfl (fun hc => (fun hX => ?_) ((mh_if hX).2 hc)) (fun hc => (fun hX => ?_) ((mh_if hX).1 hc))
    · refine lv_goto (tgt := 2678) hx hb dL_law_1163 rfl ?_
      cases hX
      refine W.widen (k := cells + 3) (n := slots + 18) (by omega) (by omega) ?_
      exact kk _ _ _ wd (lv_sub hl [2, 3, 4, 5, 6] rfl)
    · refine lv_aload_n hx hb dL_law_1144 rfl (lv_at hl 5 rfl) ?_
      refine lv_iconst (v := 0) hx hb dL_law_1145 (by decide) ?_
      refine mh_lald cx wd dL_law_1146 hX (fun w9 hX => ?_)
      refine lv_iload hx hb dL_law_1147 (lv_at hl 0 rfl) ?_
      refine lv_if_eq (tgt := 1156) hx hb dL_law_1149 rfl (fun hc => (fun hX => ?_) ((mh_if hX).1 hc)) (fun hc => (fun hX => ?_) ((mh_if hX).2 hc))
      · refine lv_lconst (v := 0) hx hb dL_law_1156 (by decide) ?_
        refine W.lcmp hx hb dL_law_1157 ?_
        refine lv_if_eq (tgt := 1163) hx hb dL_law_1158 rfl (fun hc => (fun hX => ?_) ((mh_if hX).1 hc)) (fun hc => (fun hX => ?_) ((mh_if hX).2 hc))
        · refine lv_goto (tgt := 2678) hx hb dL_law_1163 rfl ?_
          cases hX
          refine W.widen (k := cells + 3) (n := slots + 18) (by omega) (by omega) ?_
          exact kk _ _ _ wd (lv_sub hl [2, 3, 4, 5, 6] rfl)
        · refine lv_iconst (v := 0) hx hb dL_law_1161 (by decide) ?_
          cases hX
      · refine lv_lconst (v := 1) hx hb dL_law_1152 (by decide) ?_
        refine lv_goto (tgt := 1157) hx hb dL_law_1153 rfl ?_
        refine W.lcmp hx hb dL_law_1157 ?_
        refine lv_if_eq (tgt := 1163) hx hb dL_law_1158 rfl (fun hc => (fun hX => ?_) ((mh_if hX).1 hc)) (fun hc => (fun hX => ?_) ((mh_if hX).2 hc))
        · refine lv_goto (tgt := 2678) hx hb dL_law_1163 rfl ?_
          cases hX
          refine W.widen (k := cells + 3) (n := slots + 18) (by omega) (by omega) ?_
          exact kk _ _ _ wd (lv_sub hl [2, 3, 4, 5, 6] rfl)
        · refine lv_iconst (v := 0) hx hb dL_law_1161 (by decide) ?_
          cases hX
  · refine lv_iconst (v := 0) hx hb dL_law_1137 (by decide) ?_
    cases hX
def f_L_k16 (xs : Nat → Int32) (N o1 o2 o3 : Nat) (x4 : Int32) (h : mh_H) : Option mh_H :=
  (mh_sc xs N (x4 + (1 : Int32))).bind fun v1 =>
  mh_b2 (f_L_needed_e o1 v1 o3 h) fun v3 h2 =>
  (mh_sc xs N (x4 + (1 : Int32))).bind fun v4 =>
  mh_b2 (mh_cal h2 o2 12 (f_X12_needed_e o2 v4 h2)) fun v6 h5 =>
  mh_b2 (mh_cal h5 o2 12 (f_X12_thrown_e o2 h5)) fun v8 h7 =>
  if v8 = v3 then (
  if v3 = 0 then (
  (mh_aJ h7 o3 (0 : Int32)).bind fun w9 =>
  if (lg_cmp w9 ((v6).toInt64)) = 0 then (
  some h7) else
  none) else
  some h7) else
  none
set_option maxRecDepth 100000 in
set_option maxHeartbeats 4000000 in
theorem w_L_k16 {p : Program} {l : Launch} {e : Env} {s : State} {m : MethodId} {args : Array Value} {below : List Frame} {meth : Method} {c : Code} {D : va_G} {ks : Nat → ClassId} {L : List Nat} {A : Nat → Prop} {b N : Nat} {xs : Nat → Int32} {o1 o2 o3 : Nat} {x4 : Int32} {h h' : mh_H} {H : Heap} {locs : List Loc} {ls : Array Slot} {cells slots : Nat} {Q : State → Prop} (cx : mh_C p m c cL_law 8 s args RL meth D ks A) (th : mh_Th l A s) (nc : mh_Nc s) (hS : va_X b N xs s s.heap ∧ b < s.heap.size ∧ ¬ A b) (hc : cells + 3 ≤ room_1.cells ∧ slots + 18 ≤ room_1.slots) (wd : mh_W D ks L A s.heap h H locs) (hl : lv_has ls 8 [(0, .ref b), (1, .ref o1), (2, .ref o2), (3, .ref o3), (4, .int x4)]) (hX : f_L_k16 xs N o1 o2 o3 x4 h = some h')
    (kk : ∀ H locs ls, mh_W D ks L A s.heap h' H locs → lv_has ls 8 [(0, .ref b), (1, .ref o1), (2, .ref o2), (3, .ref o3), (4, .int x4)] → W p l e room_1 s m args below meth c H locs (cells + 3) (slots + 18) Q (F0 m 2678 ls [])) : W p l e room_1 s m args below meth c H locs cells slots Q (F0 m 1166 ls []) := by
  have hx := cx.1.1
  have hb := cx.1.2.1
  unfold f_L_k16 at hX
  refine lv_aload_n hx hb dL_law_1166 rfl (lv_at hl 1 rfl) ?_
  refine lv_aload_n hx hb dL_law_1167 rfl (lv_at hl 0 rfl) ?_
  refine lv_iload hx hb dL_law_1168 (lv_at hl 4 rfl) ?_
  refine lv_iconst (v := 1) hx hb dL_law_1170 (by decide) ?_
  refine lv_iadd hx hb dL_law_1171 ?_
  refine mh_scl cx wd hS dL_law_1172 hX (fun v1 hX => ?_)
  refine lv_aload_n hx hb dL_law_1173 rfl (lv_at hl 3 rfl) ?_
  refine mh_wS cx th nc wd (K := 1) [.ref o1, .int v1, .ref o3] yx_L_needed sw_L_194 rfl hl.1 rfl (Nat.le_of_ble_eq_true rfl) dL_law_1174 ⟨Nat.le_of_ble_eq_true rfl, Nat.le_of_ble_eq_true rfl⟩ (mh_rq hc (k := 1) (j := 6) (Nat.le_of_ble_eq_true rfl) (Nat.le_of_ble_eq_true rfl)) (fun _ _ q => c_L_needed q) hX (fun v3 h2 H locs wd hX => ?_)
  refine lv_istore (lv' := [(5, .int v3), (0, .ref b), (1, .ref o1), (2, .ref o2), (3, .ref o3), (4, .int x4)]) hx hb dL_law_1177 hl (Nat.le_of_ble_eq_true rfl) rfl (fun ls hl => ?_)
  refine lv_aload_n hx hb dL_law_1179 rfl (lv_at hl 3 rfl) ?_
  refine lv_aload_n hx hb dL_law_1180 rfl (lv_at hl 1 rfl) ?_
  refine lv_iload hx hb dL_law_1181 (lv_at hl 5 rfl) ?_
  refine lv_iconst (v := 1) hx hb dL_law_1183 (by decide) ?_
  refine lv_iadd hx hb dL_law_1184 ?_
  refine mh_scl cx wd hS dL_law_1185 hX (fun v4 hX => ?_)
  refine mh_callVI cx wd [.int v4] (rfl : vwCl[12]? = some (RX12, TX12, 38)) yw_X12_needed vw_L_196 rfl hl.1 rfl (Nat.le_of_ble_eq_true rfl) dL_law_1186 ⟨Nat.le_of_ble_eq_true rfl, Nat.le_of_ble_eq_true rfl⟩ (mh_rq hc (k := 1) (j := 6) (Nat.le_of_ble_eq_true rfl) (Nat.le_of_ble_eq_true rfl)) (fun _ _ q => c_X12_needed q) hX (fun v6 h5 H locs wd hX => ?_)
  refine lv_istore (lv' := [(6, .int v6), (5, .int v3), (0, .ref b), (1, .ref o1), (2, .ref o2), (3, .ref o3), (4, .int x4)]) hx hb dL_law_1189 hl (Nat.le_of_ble_eq_true rfl) rfl (fun ls hl => ?_)
  refine lv_aload_n hx hb dL_law_1191 rfl (lv_at hl 4 rfl) ?_
  refine mh_callVI cx wd [] (rfl : vwCl[12]? = some (RX12, TX12, 38)) yw_X12_thrown vw_L_143 rfl hl.1 rfl (Nat.le_of_ble_eq_true rfl) dL_law_1192 ⟨Nat.le_of_ble_eq_true rfl, Nat.le_of_ble_eq_true rfl⟩ (mh_rq hc (k := 1) (j := 6) (Nat.le_of_ble_eq_true rfl) (Nat.le_of_ble_eq_true rfl)) (fun _ _ q => c_X12_thrown q) hX (fun v8 h7 H locs wd hX => ?_)
  refine lv_iload hx hb dL_law_1195 (lv_at hl 1 rfl) ?_
  refine lv_icmp_eq (tgt := 1202) hx hb dL_law_1197 rfl (fun hc => (fun hX => ?_) ((mh_if hX).1 hc)) (fun hc => (fun hX => ?_) ((mh_if hX).2 hc))
  · refine lv_iload hx hb dL_law_1202 (lv_at hl 1 rfl) ?_
    refine lv_if_ne (tgt := 1219) hx hb dL_law_1204 rfl (fun hc => (fun hX => ?_) ((mh_if hX).2 hc)) (fun hc => (fun hX => ?_) ((mh_if hX).1 hc))
    · refine lv_goto (tgt := 2678) hx hb dL_law_1219 rfl ?_
      cases hX
      refine W.widen (k := cells + 3) (n := slots + 18) (by omega) (by omega) ?_
      exact kk _ _ _ wd (lv_sub hl [2, 3, 4, 5, 6] rfl)
    · refine lv_aload_n hx hb dL_law_1207 rfl (lv_at hl 5 rfl) ?_
      refine lv_iconst (v := 0) hx hb dL_law_1208 (by decide) ?_
      refine mh_lald cx wd dL_law_1209 hX (fun w9 hX => ?_)
      refine lv_iload hx hb dL_law_1210 (lv_at hl 0 rfl) ?_
      refine lv_i2l hx hb dL_law_1212 rfl ?_
      refine W.lcmp hx hb dL_law_1213 ?_
      refine lv_if_eq (tgt := 1219) hx hb dL_law_1214 rfl (fun hc => (fun hX => ?_) ((mh_if hX).1 hc)) (fun hc => (fun hX => ?_) ((mh_if hX).2 hc))
      · refine lv_goto (tgt := 2678) hx hb dL_law_1219 rfl ?_
        cases hX
        refine W.widen (k := cells + 3) (n := slots + 18) (by omega) (by omega) ?_
        exact kk _ _ _ wd (lv_sub hl [2, 3, 4, 5, 6] rfl)
      · refine lv_iconst (v := 0) hx hb dL_law_1217 (by decide) ?_
        cases hX
  · refine lv_iconst (v := 0) hx hb dL_law_1200 (by decide) ?_
    cases hX
def f_L_k17 (xs : Nat → Int32) (N o1 o2 o3 : Nat) (x4 : Int32) (h : mh_H) : Option mh_H :=
  (mh_sc xs N (x4 + (1 : Int32))).bind fun v1 =>
  (mh_sc xs N (x4 + (2 : Int32))).bind fun v2 =>
  mh_b2 (f_L_same_e o1 v1 v2 o3 h) fun v4 h3 =>
  (mh_sc xs N (x4 + (1 : Int32))).bind fun v5 =>
  (mh_sc xs N (x4 + (2 : Int32))).bind fun v6 =>
  mh_b2 (mh_cal h3 o2 12 (f_X12_same_e o2 v5 v6 h3)) fun v8 h7 =>
  mh_b2 (mh_cal h7 o2 12 (f_X12_thrown_e o2 h7)) fun v10 h9 =>
  if v10 = v4 then (
  if v4 = 0 then (
  (mh_aJ h9 o3 (0 : Int32)).bind fun w11 =>
  if v8 = 0 then (
  if (lg_cmp w11 (0 : Int64)) = 0 then (
  some h9) else
  none) else
  if (lg_cmp w11 (1 : Int64)) = 0 then (
  some h9) else
  none) else
  some h9) else
  none
set_option maxRecDepth 100000 in
set_option maxHeartbeats 4000000 in
theorem w_L_k17 {p : Program} {l : Launch} {e : Env} {s : State} {m : MethodId} {args : Array Value} {below : List Frame} {meth : Method} {c : Code} {D : va_G} {ks : Nat → ClassId} {L : List Nat} {A : Nat → Prop} {b N : Nat} {xs : Nat → Int32} {o1 o2 o3 : Nat} {x4 : Int32} {h h' : mh_H} {H : Heap} {locs : List Loc} {ls : Array Slot} {cells slots : Nat} {Q : State → Prop} (cx : mh_C p m c cL_law 8 s args RL meth D ks A) (th : mh_Th l A s) (nc : mh_Nc s) (hS : va_X b N xs s s.heap ∧ b < s.heap.size ∧ ¬ A b) (hc : cells + 3 ≤ room_1.cells ∧ slots + 18 ≤ room_1.slots) (wd : mh_W D ks L A s.heap h H locs) (hl : lv_has ls 8 [(0, .ref b), (1, .ref o1), (2, .ref o2), (3, .ref o3), (4, .int x4)]) (hX : f_L_k17 xs N o1 o2 o3 x4 h = some h')
    (kk : ∀ H locs ls, mh_W D ks L A s.heap h' H locs → lv_has ls 8 [(0, .ref b), (1, .ref o1), (2, .ref o2), (3, .ref o3), (4, .int x4)] → W p l e room_1 s m args below meth c H locs (cells + 3) (slots + 18) Q (F0 m 2678 ls [])) : W p l e room_1 s m args below meth c H locs cells slots Q (F0 m 1222 ls []) := by
  have hx := cx.1.1
  have hb := cx.1.2.1
  unfold f_L_k17 at hX
  refine lv_aload_n hx hb dL_law_1222 rfl (lv_at hl 1 rfl) ?_
  refine lv_aload_n hx hb dL_law_1223 rfl (lv_at hl 0 rfl) ?_
  refine lv_iload hx hb dL_law_1224 (lv_at hl 4 rfl) ?_
  refine lv_iconst (v := 1) hx hb dL_law_1226 (by decide) ?_
  refine lv_iadd hx hb dL_law_1227 ?_
  refine mh_scl cx wd hS dL_law_1228 hX (fun v1 hX => ?_)
  refine lv_aload_n hx hb dL_law_1229 rfl (lv_at hl 0 rfl) ?_
  refine lv_iload hx hb dL_law_1230 (lv_at hl 4 rfl) ?_
  refine lv_iconst (v := 2) hx hb dL_law_1232 (by decide) ?_
  refine lv_iadd hx hb dL_law_1233 ?_
  refine mh_scl cx wd hS dL_law_1234 hX (fun v2 hX => ?_)
  refine lv_aload_n hx hb dL_law_1235 rfl (lv_at hl 3 rfl) ?_
  refine mh_wS cx th nc wd (K := 2) [.ref o1, .int v1, .int v2, .ref o3] yx_L_same sw_L_197 rfl hl.1 rfl (Nat.le_of_ble_eq_true rfl) dL_law_1236 ⟨Nat.le_of_ble_eq_true rfl, Nat.le_of_ble_eq_true rfl⟩ (mh_rq hc (k := 2) (j := 12) (Nat.le_of_ble_eq_true rfl) (Nat.le_of_ble_eq_true rfl)) (fun _ _ q => c_L_same q) hX (fun v4 h3 H locs wd hX => ?_)
  refine lv_istore (lv' := [(5, .int v4), (0, .ref b), (1, .ref o1), (2, .ref o2), (3, .ref o3), (4, .int x4)]) hx hb dL_law_1239 hl (Nat.le_of_ble_eq_true rfl) rfl (fun ls hl => ?_)
  refine lv_aload_n hx hb dL_law_1241 rfl (lv_at hl 3 rfl) ?_
  refine lv_aload_n hx hb dL_law_1242 rfl (lv_at hl 1 rfl) ?_
  refine lv_iload hx hb dL_law_1243 (lv_at hl 5 rfl) ?_
  refine lv_iconst (v := 1) hx hb dL_law_1245 (by decide) ?_
  refine lv_iadd hx hb dL_law_1246 ?_
  refine mh_scl cx wd hS dL_law_1247 hX (fun v5 hX => ?_)
  refine lv_aload_n hx hb dL_law_1248 rfl (lv_at hl 1 rfl) ?_
  refine lv_iload hx hb dL_law_1249 (lv_at hl 5 rfl) ?_
  refine lv_iconst (v := 2) hx hb dL_law_1251 (by decide) ?_
  refine lv_iadd hx hb dL_law_1252 ?_
  refine mh_scl cx wd hS dL_law_1253 hX (fun v6 hX => ?_)
  refine mh_callVI cx wd [.int v5, .int v6] (rfl : vwCl[12]? = some (RX12, TX12, 38)) yw_X12_same vw_L_199 rfl hl.1 rfl (Nat.le_of_ble_eq_true rfl) dL_law_1254 ⟨Nat.le_of_ble_eq_true rfl, Nat.le_of_ble_eq_true rfl⟩ (mh_rq hc (k := 2) (j := 12) (Nat.le_of_ble_eq_true rfl) (Nat.le_of_ble_eq_true rfl)) (fun _ _ q => c_X12_same q) hX (fun v8 h7 H locs wd hX => ?_)
  refine lv_istore (lv' := [(6, .int v8), (5, .int v4), (0, .ref b), (1, .ref o1), (2, .ref o2), (3, .ref o3), (4, .int x4)]) hx hb dL_law_1257 hl (Nat.le_of_ble_eq_true rfl) rfl (fun ls hl => ?_)
  refine lv_aload_n hx hb dL_law_1259 rfl (lv_at hl 4 rfl) ?_
  refine mh_callVI cx wd [] (rfl : vwCl[12]? = some (RX12, TX12, 38)) yw_X12_thrown vw_L_143 rfl hl.1 rfl (Nat.le_of_ble_eq_true rfl) dL_law_1260 ⟨Nat.le_of_ble_eq_true rfl, Nat.le_of_ble_eq_true rfl⟩ (mh_rq hc (k := 2) (j := 12) (Nat.le_of_ble_eq_true rfl) (Nat.le_of_ble_eq_true rfl)) (fun _ _ q => c_X12_thrown q) hX (fun v10 h9 H locs wd hX => ?_)
  refine lv_iload hx hb dL_law_1263 (lv_at hl 1 rfl) ?_
  refine lv_icmp_eq (tgt := 1270) hx hb dL_law_1265 rfl (fun hc => (fun hX => ?_) ((mh_if hX).1 hc)) (fun hc => (fun hX => ?_) ((mh_if hX).2 hc))
  · refine lv_iload hx hb dL_law_1270 (lv_at hl 1 rfl) ?_
    refine lv_if_ne (tgt := 1294) hx hb dL_law_1272 rfl (fun hc => (fun hX => ?_) ((mh_if hX).2 hc)) (fun hc => (fun hX => ?_) ((mh_if hX).1 hc))
    · refine lv_goto (tgt := 2678) hx hb dL_law_1294 rfl ?_
      cases hX
      refine W.widen (k := cells + 3) (n := slots + 18) (by omega) (by omega) ?_
      exact kk _ _ _ wd (lv_sub hl [2, 3, 4, 5, 6] rfl)
    · refine lv_aload_n hx hb dL_law_1275 rfl (lv_at hl 5 rfl) ?_
      refine lv_iconst (v := 0) hx hb dL_law_1276 (by decide) ?_
      refine mh_lald cx wd dL_law_1277 hX (fun w11 hX => ?_)
      refine lv_iload hx hb dL_law_1278 (lv_at hl 0 rfl) ?_
      refine lv_if_eq (tgt := 1287) hx hb dL_law_1280 rfl (fun hc => (fun hX => ?_) ((mh_if hX).1 hc)) (fun hc => (fun hX => ?_) ((mh_if hX).2 hc))
      · refine lv_lconst (v := 0) hx hb dL_law_1287 (by decide) ?_
        refine W.lcmp hx hb dL_law_1288 ?_
        refine lv_if_eq (tgt := 1294) hx hb dL_law_1289 rfl (fun hc => (fun hX => ?_) ((mh_if hX).1 hc)) (fun hc => (fun hX => ?_) ((mh_if hX).2 hc))
        · refine lv_goto (tgt := 2678) hx hb dL_law_1294 rfl ?_
          cases hX
          refine W.widen (k := cells + 3) (n := slots + 18) (by omega) (by omega) ?_
          exact kk _ _ _ wd (lv_sub hl [2, 3, 4, 5, 6] rfl)
        · refine lv_iconst (v := 0) hx hb dL_law_1292 (by decide) ?_
          cases hX
      · refine lv_lconst (v := 1) hx hb dL_law_1283 (by decide) ?_
        refine lv_goto (tgt := 1288) hx hb dL_law_1284 rfl ?_
        refine W.lcmp hx hb dL_law_1288 ?_
        refine lv_if_eq (tgt := 1294) hx hb dL_law_1289 rfl (fun hc => (fun hX => ?_) ((mh_if hX).1 hc)) (fun hc => (fun hX => ?_) ((mh_if hX).2 hc))
        · refine lv_goto (tgt := 2678) hx hb dL_law_1294 rfl ?_
          cases hX
          refine W.widen (k := cells + 3) (n := slots + 18) (by omega) (by omega) ?_
          exact kk _ _ _ wd (lv_sub hl [2, 3, 4, 5, 6] rfl)
        · refine lv_iconst (v := 0) hx hb dL_law_1292 (by decide) ?_
          cases hX
  · refine lv_iconst (v := 0) hx hb dL_law_1268 (by decide) ?_
    cases hX
def f_L_k18 (xs : Nat → Int32) (N o1 o2 o3 : Nat) (x4 : Int32) (h : mh_H) : Option mh_H :=
  (mh_sc xs N (x4 + (1 : Int32))).bind fun v1 =>
  (mh_sc xs N (x4 + (2 : Int32))).bind fun v2 =>
  (mh_sc xs N (x4 + (3 : Int32))).bind fun v3 =>
  mh_b2 (f_L_join_e o1 v1 v2 v3 o3 h) fun v5 h4 =>
  (mh_sc xs N (x4 + (1 : Int32))).bind fun v6 =>
  (mh_sc xs N (x4 + (2 : Int32))).bind fun v7 =>
  (mh_sc xs N (x4 + (3 : Int32))).bind fun v8 =>
  mh_b2 (mh_cal h4 o2 12 (f_X12_join_e o2 v6 v7 v8 h4)) fun v10 h9 =>
  mh_b2 (mh_cal h9 o2 12 (f_X12_thrown_e o2 h9)) fun v12 h11 =>
  if v12 = v5 then (
  if v5 = 0 then (
  (mh_aJ h11 o3 (0 : Int32)).bind fun w13 =>
  if (lg_cmp w13 ((v10).toInt64)) = 0 then (
  some h11) else
  none) else
  some h11) else
  none
set_option maxRecDepth 100000 in
set_option maxHeartbeats 4000000 in
theorem w_L_k18 {p : Program} {l : Launch} {e : Env} {s : State} {m : MethodId} {args : Array Value} {below : List Frame} {meth : Method} {c : Code} {D : va_G} {ks : Nat → ClassId} {L : List Nat} {A : Nat → Prop} {b N : Nat} {xs : Nat → Int32} {o1 o2 o3 : Nat} {x4 : Int32} {h h' : mh_H} {H : Heap} {locs : List Loc} {ls : Array Slot} {cells slots : Nat} {Q : State → Prop} (cx : mh_C p m c cL_law 8 s args RL meth D ks A) (th : mh_Th l A s) (nc : mh_Nc s) (hS : va_X b N xs s s.heap ∧ b < s.heap.size ∧ ¬ A b) (hc : cells + 3 ≤ room_1.cells ∧ slots + 18 ≤ room_1.slots) (wd : mh_W D ks L A s.heap h H locs) (hl : lv_has ls 8 [(0, .ref b), (1, .ref o1), (2, .ref o2), (3, .ref o3), (4, .int x4)]) (hX : f_L_k18 xs N o1 o2 o3 x4 h = some h')
    (kk : ∀ H locs ls, mh_W D ks L A s.heap h' H locs → lv_has ls 8 [(0, .ref b), (1, .ref o1), (2, .ref o2), (3, .ref o3), (4, .int x4)] → W p l e room_1 s m args below meth c H locs (cells + 3) (slots + 18) Q (F0 m 2678 ls [])) : W p l e room_1 s m args below meth c H locs cells slots Q (F0 m 1297 ls []) := by
  have hx := cx.1.1
  have hb := cx.1.2.1
  unfold f_L_k18 at hX
  refine lv_aload_n hx hb dL_law_1297 rfl (lv_at hl 1 rfl) ?_
  refine lv_aload_n hx hb dL_law_1298 rfl (lv_at hl 0 rfl) ?_
  refine lv_iload hx hb dL_law_1299 (lv_at hl 4 rfl) ?_
  refine lv_iconst (v := 1) hx hb dL_law_1301 (by decide) ?_
  refine lv_iadd hx hb dL_law_1302 ?_
  refine mh_scl cx wd hS dL_law_1303 hX (fun v1 hX => ?_)
  refine lv_aload_n hx hb dL_law_1304 rfl (lv_at hl 0 rfl) ?_
  refine lv_iload hx hb dL_law_1305 (lv_at hl 4 rfl) ?_
  refine lv_iconst (v := 2) hx hb dL_law_1307 (by decide) ?_
  refine lv_iadd hx hb dL_law_1308 ?_
  refine mh_scl cx wd hS dL_law_1309 hX (fun v2 hX => ?_)
  refine lv_aload_n hx hb dL_law_1310 rfl (lv_at hl 0 rfl) ?_
  refine lv_iload hx hb dL_law_1311 (lv_at hl 4 rfl) ?_
  refine lv_iconst (v := 3) hx hb dL_law_1313 (by decide) ?_
  refine lv_iadd hx hb dL_law_1314 ?_
  refine mh_scl cx wd hS dL_law_1315 hX (fun v3 hX => ?_)
  refine lv_aload_n hx hb dL_law_1316 rfl (lv_at hl 3 rfl) ?_
  refine mh_wS cx th nc wd (K := 3) [.ref o1, .int v1, .int v2, .int v3, .ref o3] yx_L_join sw_L_200 rfl hl.1 rfl (Nat.le_of_ble_eq_true rfl) dL_law_1317 ⟨Nat.le_of_ble_eq_true rfl, Nat.le_of_ble_eq_true rfl⟩ (mh_rq hc (k := 3) (j := 18) (Nat.le_of_ble_eq_true rfl) (Nat.le_of_ble_eq_true rfl)) (fun _ _ q => c_L_join q) hX (fun v5 h4 H locs wd hX => ?_)
  refine lv_istore (lv' := [(5, .int v5), (0, .ref b), (1, .ref o1), (2, .ref o2), (3, .ref o3), (4, .int x4)]) hx hb dL_law_1320 hl (Nat.le_of_ble_eq_true rfl) rfl (fun ls hl => ?_)
  refine lv_aload_n hx hb dL_law_1322 rfl (lv_at hl 3 rfl) ?_
  refine lv_aload_n hx hb dL_law_1323 rfl (lv_at hl 1 rfl) ?_
  refine lv_iload hx hb dL_law_1324 (lv_at hl 5 rfl) ?_
  refine lv_iconst (v := 1) hx hb dL_law_1326 (by decide) ?_
  refine lv_iadd hx hb dL_law_1327 ?_
  refine mh_scl cx wd hS dL_law_1328 hX (fun v6 hX => ?_)
  refine lv_aload_n hx hb dL_law_1329 rfl (lv_at hl 1 rfl) ?_
  refine lv_iload hx hb dL_law_1330 (lv_at hl 5 rfl) ?_
  refine lv_iconst (v := 2) hx hb dL_law_1332 (by decide) ?_
  refine lv_iadd hx hb dL_law_1333 ?_
  refine mh_scl cx wd hS dL_law_1334 hX (fun v7 hX => ?_)
  refine lv_aload_n hx hb dL_law_1335 rfl (lv_at hl 1 rfl) ?_
  refine lv_iload hx hb dL_law_1336 (lv_at hl 5 rfl) ?_
  refine lv_iconst (v := 3) hx hb dL_law_1338 (by decide) ?_
  refine lv_iadd hx hb dL_law_1339 ?_
  refine mh_scl cx wd hS dL_law_1340 hX (fun v8 hX => ?_)
  refine mh_callVI cx wd [.int v6, .int v7, .int v8] (rfl : vwCl[12]? = some (RX12, TX12, 38)) yw_X12_join vw_L_203 rfl hl.1 rfl (Nat.le_of_ble_eq_true rfl) dL_law_1341 ⟨Nat.le_of_ble_eq_true rfl, Nat.le_of_ble_eq_true rfl⟩ (mh_rq hc (k := 3) (j := 18) (Nat.le_of_ble_eq_true rfl) (Nat.le_of_ble_eq_true rfl)) (fun _ _ q => c_X12_join q) hX (fun v10 h9 H locs wd hX => ?_)
  refine lv_istore (lv' := [(6, .int v10), (5, .int v5), (0, .ref b), (1, .ref o1), (2, .ref o2), (3, .ref o3), (4, .int x4)]) hx hb dL_law_1344 hl (Nat.le_of_ble_eq_true rfl) rfl (fun ls hl => ?_)
  refine lv_aload_n hx hb dL_law_1346 rfl (lv_at hl 4 rfl) ?_
  refine mh_callVI cx wd [] (rfl : vwCl[12]? = some (RX12, TX12, 38)) yw_X12_thrown vw_L_143 rfl hl.1 rfl (Nat.le_of_ble_eq_true rfl) dL_law_1347 ⟨Nat.le_of_ble_eq_true rfl, Nat.le_of_ble_eq_true rfl⟩ (mh_rq hc (k := 3) (j := 18) (Nat.le_of_ble_eq_true rfl) (Nat.le_of_ble_eq_true rfl)) (fun _ _ q => c_X12_thrown q) hX (fun v12 h11 H locs wd hX => ?_)
  refine lv_iload hx hb dL_law_1350 (lv_at hl 1 rfl) ?_
  refine lv_icmp_eq (tgt := 1357) hx hb dL_law_1352 rfl (fun hc => (fun hX => ?_) ((mh_if hX).1 hc)) (fun hc => (fun hX => ?_) ((mh_if hX).2 hc))
  · refine lv_iload hx hb dL_law_1357 (lv_at hl 1 rfl) ?_
    refine lv_if_ne (tgt := 1374) hx hb dL_law_1359 rfl (fun hc => (fun hX => ?_) ((mh_if hX).2 hc)) (fun hc => (fun hX => ?_) ((mh_if hX).1 hc))
    · refine lv_goto (tgt := 2678) hx hb dL_law_1374 rfl ?_
      cases hX
      refine W.widen (k := cells + 3) (n := slots + 18) (by omega) (by omega) ?_
      exact kk _ _ _ wd (lv_sub hl [2, 3, 4, 5, 6] rfl)
    · refine lv_aload_n hx hb dL_law_1362 rfl (lv_at hl 5 rfl) ?_
      refine lv_iconst (v := 0) hx hb dL_law_1363 (by decide) ?_
      refine mh_lald cx wd dL_law_1364 hX (fun w13 hX => ?_)
      refine lv_iload hx hb dL_law_1365 (lv_at hl 0 rfl) ?_
      refine lv_i2l hx hb dL_law_1367 rfl ?_
      refine W.lcmp hx hb dL_law_1368 ?_
      refine lv_if_eq (tgt := 1374) hx hb dL_law_1369 rfl (fun hc => (fun hX => ?_) ((mh_if hX).1 hc)) (fun hc => (fun hX => ?_) ((mh_if hX).2 hc))
      · refine lv_goto (tgt := 2678) hx hb dL_law_1374 rfl ?_
        cases hX
        refine W.widen (k := cells + 3) (n := slots + 18) (by omega) (by omega) ?_
        exact kk _ _ _ wd (lv_sub hl [2, 3, 4, 5, 6] rfl)
      · refine lv_iconst (v := 0) hx hb dL_law_1372 (by decide) ?_
        cases hX
  · refine lv_iconst (v := 0) hx hb dL_law_1355 (by decide) ?_
    cases hX
