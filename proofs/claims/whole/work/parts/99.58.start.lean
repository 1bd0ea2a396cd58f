/-! the law from its entry -/
theorem yw_X11_init : mh_Yw yX11_init cX11_init 1 none 0 := ⟨(mh_in 61 (by decide +kernel) (by decide +kernel)), (mh_in 85 (by decide +kernel) (by decide +kernel)), by decide +kernel, by decide +kernel, by decide +kernel⟩
theorem yw_X12_init : mh_Yw yX12_init cX12_init 1 none 0 := ⟨(mh_in 73 (by decide +kernel) (by decide +kernel)), (mh_in 1210 (by decide +kernel) (by decide +kernel)), by decide +kernel, by decide +kernel, by decide +kernel⟩
theorem mh_arr_i {s : State} {a : Array Value} (h : (Cond.arrayClass .int).before a s = true) : ∃ cA, ArrOfT s cA .int ∧ va_RA s cA .int := by
  obtain ⟨c, k, comp, f1, f2, f3⟩ := Cond.arrayClass_spec h
  exact ⟨c, fun n z => ⟨fun k h => (by cases h), k, f2, comp, f3⟩, f1⟩
theorem mh_arr_j {s : State} {a : Array Value} (h : (Cond.arrayClass .long).before a s = true) : ∃ cA, ArrOfT s cA .long ∧ va_RA s cA .long := by
  obtain ⟨c, k, comp, f1, f2, f3⟩ := Cond.arrayClass_spec h
  exact ⟨c, fun n z => ⟨fun k h => (by cases h), k, f2, comp, f3⟩, f1⟩
theorem mh_arr_z {s : State} {a : Array Value} (h : (Cond.arrayClass .boolean).before a s = true) : ∃ cA, ArrOfT s cA .boolean ∧ va_RA s cA .boolean := by
  obtain ⟨c, k, comp, f1, f2, f3⟩ := Cond.arrayClass_spec h
  exact ⟨c, fun n z => ⟨fun k h => (by cases h), k, f2, comp, f3⟩, f1⟩
theorem mh_arr_q {s : State} {a : Array Value} {C : String} (h : (Cond.arrayOver (.object C)).before a s = true) : ∃ cA, ArrOfT s cA (.object C) ∧ va_RA s cA (.object C) := by
  obtain ⟨comp, c, k, f1, -, f2, f3, f4⟩ := Cond.arrayOver_spec h
  exact ⟨c, fun n z => ⟨fun k h => (by cases h), k, f2, comp, f3⟩, k, comp, f2, f3, f1, f4⟩
theorem mh_arr_m {s : State} {a : Array Value} {t : FieldType} (h : (Cond.arrayOver (.array t)).before a s = true) : ∃ cA, ArrOfT s cA (.array t) ∧ va_RA s cA (.array t) := by
  obtain ⟨comp, c, k, f1, -, f2, f3, f4⟩ := Jvm.Stand.arrayOver_specB h
  exact ⟨c, fun n z => ⟨fun k h => (by cases h), k, f2, comp, f3⟩, f4⟩
theorem mh_nest_t {w : Cond} (h : mh_nest w = true) : w.onTables = true := by
  cases w <;> first | rfl | cases h
theorem mh_sr_t : ∀ q ∈ mh_SR, Cond.stringRef RX11 q.1 q.2 ∈ lw_tbl := by decide +kernel
theorem mh_sr_g : ∀ q ∈ mh_SR, Cond.exactly (.string RX11 q.1) "java/lang/String" ∈ flatC (Jvm.Cond.and given_1 narrow_1) := by decide +kernel
theorem mh_nc_g : Cond.not (.castable (mh_EN 2) (mh_EN 1)) ∈ flatC (Jvm.Cond.and given_1 narrow_1) := by decide +kernel
theorem mh_us_g : Cond.isRef (.static Bundle.tN "UNASSIGNED_STACK" Bundle.steD) ∈ flatC (Jvm.Cond.and given_1 narrow_1) := by decide +kernel
theorem mh_ss_g : Cond.isRef (.static Bundle.tN "SUPPRESSED_SENTINEL" Bundle.listD) ∈ flatC (Jvm.Cond.and given_1 narrow_1) := by decide +kernel
theorem mh_us_t : Cond.laysStatic Bundle.tN "UNASSIGNED_STACK" Bundle.steD ∈ lw_tbl := by decide +kernel
theorem mh_ss_t : Cond.laysStatic Bundle.tN "SUPPRESSED_SENTINEL" Bundle.listD ∈ lw_tbl := by decide +kernel
theorem mh_it_t : Cond.initialized Bundle.tN ∈ lw_tbl := by decide +kernel
theorem mh_a1_t : Cond.arrayOver (.object RX1) ∈ lw_tbl := by decide +kernel
theorem mh_a7_t : Cond.arrayOver (.object RX7) ∈ lw_tbl := by decide +kernel
theorem mh_ai_t : Cond.arrayOver (.array .int) ∈ lw_tbl := by decide +kernel
theorem mh_aj_t : Cond.arrayOver (.array .long) ∈ lw_tbl := by decide +kernel
/-- class, reference and row, new: all apart -/
theorem mh_LI0 {g1 h2 : mh_H} {ad bd : Nat → Nat} {o2 q3 : Nat} {e2 : mh_E} (n2 : g1 o2 = none) (u2 : mh_CI g1 ad mh_s0) (u3 : ∀ k, k < 1290 → g1 (ad k) ≠ none) (v3 : mh_RI h2 bd mh_s0 mh_F0) (v4 : ∀ k, k < 99 → bd k = o2 ∨ mh_up g1 o2 e2 (bd k) = none) (v5 : ∀ k, k < 99 → h2 (bd k) ≠ none) (v6 : ∀ b, b ≠ o2 → mh_up g1 o2 e2 b ≠ none → h2 b = mh_up g1 o2 e2 b) (n3 : h2 q3 = none) : mh_LI (mh_up h2 q3 (mh_Nj 1)) ad bd q3 mh_s0 mh_F0 := by
  have a2 : ∀ k, k < 1290 → ad k ≠ o2 := fun k hk z => u3 k hk (by rw [z]; exact n2)
  have a3 : ∀ k, k < 1290 → h2 (ad k) = g1 (ad k) := fun k hk => by
    rw [v6 _ (a2 k hk) (by rw [mh_up_ne (a2 k hk)]; exact u3 k hk), mh_up_ne (a2 k hk)]
  have a4 : ∀ k, k < 1290 → ad k ≠ q3 := fun k hk z => u3 k hk (by rw [← a3 k hk, z]; exact n3)
  have b4 : ∀ k, k < 99 → bd k ≠ q3 := fun k hk z => v5 k hk (by rw [z]; exact n3)
  refine ⟨u2.hold (fun k hk => by rw [mh_up_ne (a4 k hk), a3 k hk]), v3.hold (fun k hk => mh_up_ne (b4 k hk)), fun i j hi hj z => ?_, ⟨_, mh_up_eq _ _ _⟩, a4, b4, Nat.zero_le _⟩
  rcases v4 j hj with w | w
  · exact a2 i hi (z.trans w)
  · rw [← z, mh_up_ne (a2 i hi)] at w
    exact u3 i hi w
set_option maxRecDepth 100000 in
set_option maxHeartbeats 4000000 in
theorem whole_start {p : Program} {e : Env} {s : State} {m : MethodId} {below : List Frame} {meth : Method} {c : Code} (l : Launch) (htr : l.stackTraces = false) {b L : Nat} {xs : Nat → Int32} (hL : L ≤ 2560) (C0 : lw_At p s m meth c b L xs) : W p l e room_1 s m #[Value.ref b] below meth c s.heap [] 0 0 (lw_Z below #[Value.ref b] s) (entryFrame m ([Value.ref b] : List Value).toArray 8) := by
  obtain ⟨hx, hb, hr, hml, hown, hts, hX, hbl, hlocks, hgv⟩ := id C0
  have hTB : ∀ w ∈ mh_TB, w.before #[Value.ref b] s = true := fun w hw => hts w (List.mem_filter.mp hw).1
  have hfl := flat_of_before _ hgv
  obtain ⟨c0, i0, k0⟩ := u_known (C := RX0) (T := TX0) (N := 2) (n := 2) hTB uw_X0 (hTB (.instantiable RX0 2) (mh_in 152 (by decide +kernel) (by decide +kernel)))
  obtain ⟨c1, i1, k1⟩ := u_known (C := RX1) (T := TX1) (N := 2) (n := 2) hTB uw_X1 (hTB (.instantiable RX1 2) (mh_in 99 (by decide +kernel) (by decide +kernel)))
  obtain ⟨c2, i2, k2⟩ := u_known (C := RX2) (T := TX2) (N := 5) (n := 5) hTB uw_X2 (hTB (.instantiable RX2 5) (mh_in 143 (by decide +kernel) (by decide +kernel)))
  obtain ⟨c3, i3, k3⟩ := u_known (C := RX3) (T := TX3) (N := 5) (n := 5) hTB uw_X3 (hTB (.instantiable RX3 5) (mh_in 90 (by decide +kernel) (by decide +kernel)))
  obtain ⟨c4, i4, k4⟩ := u_known (C := RX4) (T := TX4) (N := 1) (n := 1) hTB uw_X4 (hTB (.instantiable RX4 1) (mh_in 181 (by decide +kernel) (by decide +kernel)))
  obtain ⟨c5, i5, k5⟩ := u_known (C := RX5) (T := TX5) (N := 3) (n := 3) hTB uw_X5 (hTB (.instantiable RX5 3) (mh_in 193 (by decide +kernel) (by decide +kernel)))
  obtain ⟨c6, i6, k6⟩ := u_known (C := RX6) (T := TX6) (N := 5) (n := 5) hTB uw_X6 (hTB (.instantiable RX6 5) (mh_in 235 (by decide +kernel) (by decide +kernel)))
  obtain ⟨c7, i7, k7⟩ := u_known (C := RX7) (T := TX7) (N := 2) (n := 2) hTB uw_X7 (hTB (.instantiable RX7 2) (mh_in 112 (by decide +kernel) (by decide +kernel)))
  obtain ⟨c8, i8, k8⟩ := u_known (C := RX8) (T := TX8) (N := 3) (n := 3) hTB uw_X8 (hTB (.instantiable RX8 3) (mh_in 288 (by decide +kernel) (by decide +kernel)))
  obtain ⟨c9, i9, k9⟩ := u_known (C := RX9) (T := TX9) (N := 6) (n := 6) hTB uw_X9 (hTB (.instantiable RX9 6) (mh_in 261 (by decide +kernel) (by decide +kernel)))
  obtain ⟨c10, i10, k10⟩ := u_known (C := RX10) (T := TX10) (N := 3) (n := 3) hTB uw_X10 (hTB (.instantiable RX10 3) (mh_in 214 (by decide +kernel) (by decide +kernel)))
  obtain ⟨c11, i11, k11⟩ := u_known (C := RX11) (T := TX11) (N := 16) (n := 16) hTB uw_X11 (hTB (.instantiable RX11 16) (mh_in 82 (by decide +kernel) (by decide +kernel)))
  obtain ⟨c12, i12, k12⟩ := u_known (C := RX12) (T := TX12) (N := 38) (n := 38) hTB uw_X12 (hTB (.instantiable RX12 38) (mh_in 1207 (by decide +kernel) (by decide +kernel)))
  obtain ⟨D, hKc⟩ : ∃ D : va_G, ∀ (k : Nat) (q : vw_C), vwCl[k]? = some q → u_Kn s q.1 q.2.1 q.2.2 (D.1 k) (D.2 k) := by
    refine ⟨(fun k => [c0, c1, c2, c3, c4, c5, c6, c7, c8, c9, c10, c11, c12].getD k c0, fun k => [i0, i1, i2, i3, i4, i5, i6, i7, i8, i9, i10, i11, i12].getD k i0), ?_⟩
    intro k q hq
    match k, hq with
    | 0, hq => cases hq; exact k0
    | 1, hq => cases hq; exact k1
    | 2, hq => cases hq; exact k2
    | 3, hq => cases hq; exact k3
    | 4, hq => cases hq; exact k4
    | 5, hq => cases hq; exact k5
    | 6, hq => cases hq; exact k6
    | 7, hq => cases hq; exact k7
    | 8, hq => cases hq; exact k8
    | 9, hq => cases hq; exact k9
    | 10, hq => cases hq; exact k10
    | 11, hq => cases hq; exact k11
    | 12, hq => cases hq; exact k12
    | k + 13, hq => simp [vwCl] at hq
  obtain ⟨a0, r0⟩ := mh_arr_i (hTB _ wo_int)
  obtain ⟨a1, r1⟩ := mh_arr_j (hTB _ wo_long)
  obtain ⟨a2, r2⟩ := mh_arr_z (hTB _ wo_boolean)
  obtain ⟨a3, r3⟩ := mh_arr_q (hts _ mh_a1_t)
  obtain ⟨a4, r4⟩ := mh_arr_q (hts _ mh_a7_t)
  obtain ⟨a5, r5⟩ := mh_arr_m (hts _ mh_ai_t)
  obtain ⟨a6, r6⟩ := mh_arr_m (hts _ mh_aj_t)
  obtain ⟨ks, hks⟩ : ∃ ks : Nat → ClassId, ∀ (k : Nat) (q : ClassId × FieldType), (mh_ty ks)[k]? = some q → ArrOfT s q.1 q.2 ∧ va_RA s q.1 q.2 := by
    refine ⟨fun k => [a0, a1, a2, a3, a4, a5, a6].getD k a0, ?_⟩
    intro k q hq
    match k, hq with
    | 0, hq => cases hq; exact r0
    | 1, hq => cases hq; exact r1
    | 2, hq => cases hq; exact r2
    | 3, hq => cases hq; exact r3
    | 4, hq => cases hq; exact r4
    | 5, hq => cases hq; exact r5
    | 6, hq => cases hq; exact r6
    | k + 7, hq => simp [mh_ty] at hq
  have hK : va_K D vwCl (mh_ty ks) s := ⟨hKc, hks⟩
  have hZ : mh_Z s := fun w hw => va_Nw.of (mh_nest_t (List.mem_filter.mp hw).2) (hts w (List.mem_filter.mp hw).1)
  have hA0 : ∀ a : Nat, a < s.heap.size → ¬ (fun q : Nat => s.heap.size ≤ q) a := fun a ha => Nat.not_le.mpr ha
  have cx : mh_C p m c cL_law 8 s #[Value.ref b] RL meth D ks (fun q : Nat => s.heap.size ≤ q) := ⟨⟨hx, hb, hml, hown, hTB⟩, hK, hlocks, fun _ h => h, hZ⟩
  have ao : mh_AO s := ⟨hts _ mh_a1_t, hts _ mh_a7_t, hts _ mh_ai_t, hts _ mh_aj_t⟩
  have th : mh_Th l (fun q : Nat => s.heap.size ≤ q) s := ⟨htr, vx_Zqof (hts _ mh_us_t) (hts _ mh_it_t) (hfl _ mh_us_g) hA0, vx_Zqof (hts _ mh_ss_t) (hts _ mh_it_t) (hfl _ mh_ss_g) hA0, fun q hq => by
    obtain ⟨sa, -, -, -, t1, -⟩ := Cond.exactly_spec (hfl _ (mh_sr_g q hq))
    exact ⟨sa, vk_R.of (hts _ (mh_sr_t q hq)) t1⟩⟩
  have nc : mh_Nc s := va_Nc.of (hfl _ mh_nc_g)
  have wd : mh_W D ks [] (fun q : Nat => s.heap.size ≤ q) s.heap (fun _ => none) s.heap [] := ⟨fun k q h => by simp [va_pl] at h, ⟨fun i j p q h => by simp [va_pl] at h, fun k q h => by simp [va_pl] at h⟩, va_S.rf, fun a x h => by cases h⟩
  have hl := lv_entry ([.ref b]) (n := 8) (Nat.le_of_ble_eq_true rfl)
  rw [lg_entry_eq]
  generalize (lg_sl ([.ref b]) ++ List.replicate (8 - (lg_sl ([.ref b])).length) Slot.unset).toArray = ls at hl ⊢
  have hl : lv_has ls 8 [(0, .ref b)] := hl
  refine mh_new cx wd (C := RX11) (T := TX11) (N := 16) (ci := 11) tyX11 [.null, .null, .null, .null, .null, .null, .null, .null, .null, .null, .null, .null, .null, .null, .null, .int 0] rfl uw_X11 tyX11_ok (mh_in 81 (by decide +kernel) (by decide +kernel)) (mh_in 82 (by decide +kernel) (by decide +kernel)) (mh_in 61 (by decide +kernel) (by decide +kernel)) (fun j hj => by
    rcases (show j = 0 ∨ j = 1 ∨ j = 2 ∨ j = 3 ∨ j = 4 ∨ j = 5 ∨ j = 6 ∨ j = 7 ∨ j = 8 ∨ j = 9 ∨ j = 10 ∨ j = 11 ∨ j = 12 ∨ j = 13 ∨ j = 14 ∨ j = 15 by omega) with rfl | rfl | rfl | rfl | rfl | rfl | rfl | rfl | rfl | rfl | rfl | rfl | rfl | rfl | rfl | rfl <;> rfl) (Nat.le_of_ble_eq_true rfl) (Nat.le_of_ble_eq_true rfl) dL_law_0 (fun o1 L1 H e1 wd => ?_)
  have x1 : mh_up (fun _ => none) o1 (.inr (11, [.null, .null, .null, .null, .null, .null, .null, .null, .null, .null, .null, .null, .null, .null, .null, .int 0])) o1 = some (.inr (11, [.null, .null, .null, .null, .null, .null, .null, .null, .null, .null, .null, .null, .null, .null, .null, .int 0])) := mh_up_eq _ _ _
  refine lv_dup hx hb dL_law_3 rfl ?_
  refine mh_callD cx ao wd yw_X11_init rfl (mh_in 83 (by decide +kernel) (by decide +kernel)) (mh_in 84 (by decide +kernel) (by decide +kernel)) hl.1 (Nat.le_of_ble_eq_true rfl) dL_law_4 ⟨Nat.le_of_ble_eq_true rfl, Nat.le_of_ble_eq_true rfl⟩ ⟨Nat.le_of_ble_eq_true rfl, Nat.le_of_ble_eq_true rfl⟩ (c_X11_init x1) (fun L2 g1 H locs hp1 wd => ?_)
  obtain ⟨ad, u1, u2, u3⟩ := hp1
  refine lv_astore_n (lv' := [(1, .ref o1), (0, .ref b)]) hx hb dL_law_7 rfl hl (Nat.le_of_ble_eq_true rfl) rfl (fun ls hl => ?_)
  refine mh_new cx wd (C := RX12) (T := TX12) (N := 38) (ci := 12) tyX12 [.int 0, .null, .null, .int 0, .int 0, .int 0, .null, .int 0, .null, .null, .null, .null, .null, .null, .int 0, .int 0, .int 0, .null, .null, .null, .null, .null, .int 0, .int 0, .null, .null, .int 0, .int 0, .int 0, .null, .null, .null, .null, .null, .null, .null, .null, .null] rfl uw_X12 tyX12_ok (mh_in 1206 (by decide +kernel) (by decide +kernel)) (mh_in 1207 (by decide +kernel) (by decide +kernel)) (mh_in 73 (by decide +kernel) (by decide +kernel)) (fun j hj => by
    rcases (show j = 0 ∨ j = 1 ∨ j = 2 ∨ j = 3 ∨ j = 4 ∨ j = 5 ∨ j = 6 ∨ j = 7 ∨ j = 8 ∨ j = 9 ∨ j = 10 ∨ j = 11 ∨ j = 12 ∨ j = 13 ∨ j = 14 ∨ j = 15 ∨ j = 16 ∨ j = 17 ∨ j = 18 ∨ j = 19 ∨ j = 20 ∨ j = 21 ∨ j = 22 ∨ j = 23 ∨ j = 24 ∨ j = 25 ∨ j = 26 ∨ j = 27 ∨ j = 28 ∨ j = 29 ∨ j = 30 ∨ j = 31 ∨ j = 32 ∨ j = 33 ∨ j = 34 ∨ j = 35 ∨ j = 36 ∨ j = 37 by omega) with rfl | rfl | rfl | rfl | rfl | rfl | rfl | rfl | rfl | rfl | rfl | rfl | rfl | rfl | rfl | rfl | rfl | rfl | rfl | rfl | rfl | rfl | rfl | rfl | rfl | rfl | rfl | rfl | rfl | rfl | rfl | rfl | rfl | rfl | rfl | rfl | rfl | rfl <;> rfl) (Nat.le_of_ble_eq_true rfl) (Nat.le_of_ble_eq_true rfl) dL_law_8 (fun o2 L1 H e2 wd => ?_)
  have x2 : mh_up g1 o2 (.inr (12, [.int 0, .null, .null, .int 0, .int 0, .int 0, .null, .int 0, .null, .null, .null, .null, .null, .null, .int 0, .int 0, .int 0, .null, .null, .null, .null, .null, .int 0, .int 0, .null, .null, .int 0, .int 0, .int 0, .null, .null, .null, .null, .null, .null, .null, .null, .null])) o2 = some (.inr (12, [.int 0, .null, .null, .int 0, .int 0, .int 0, .null, .int 0, .null, .null, .null, .null, .null, .null, .int 0, .int 0, .int 0, .null, .null, .null, .null, .null, .int 0, .int 0, .null, .null, .int 0, .int 0, .int 0, .null, .null, .null, .null, .null, .null, .null, .null, .null])) := mh_up_eq _ _ _
  refine lv_dup hx hb dL_law_11 rfl ?_
  refine mh_callD cx ao wd yw_X12_init rfl (mh_in 1208 (by decide +kernel) (by decide +kernel)) (mh_in 1209 (by decide +kernel) (by decide +kernel)) hl.1 (Nat.le_of_ble_eq_true rfl) dL_law_12 ⟨Nat.le_of_ble_eq_true rfl, Nat.le_of_ble_eq_true rfl⟩ ⟨Nat.le_of_ble_eq_true rfl, Nat.le_of_ble_eq_true rfl⟩ (c_X12_init x2) (fun L3 g2 H locs hp2 wd => ?_)
  obtain ⟨bd, h2, v1, v2, v3, v4, v5, v6⟩ := mh_rX12 hp2
  have wd := wd.kin v1
  refine lv_astore_n (lv' := [(2, .ref o2), (1, .ref o1), (0, .ref b)]) hx hb dL_law_15 rfl hl (Nat.le_of_ble_eq_true rfl) rfl (fun ls hl => ?_)
  refine lv_iconst (v := 1) hx hb dL_law_16 (by decide) ?_
  refine mh_nwj (N' := 1) cx wd wo_long (by decide) rfl (by decide) (Nat.le_of_ble_eq_true rfl) (Nat.le_of_ble_eq_true rfl) dL_law_17 (fun q3 L4 H e3 wd => ?_)
  refine lv_astore_n (lv' := [(3, .ref q3), (2, .ref o2), (1, .ref o1), (0, .ref b)]) hx hb dL_law_19 rfl hl (Nat.le_of_ble_eq_true rfl) rfl (fun ls hl => ?_)
  refine lv_iconst (v := 0) hx hb dL_law_20 (by decide) ?_
  refine lv_istore (lv' := [(4, .int 0), (3, .ref q3), (2, .ref o2), (1, .ref o1), (0, .ref b)]) hx hb dL_law_21 hl (Nat.le_of_ble_eq_true rfl) rfl (fun ls hl => ?_)
  have hL0 := mh_LI0 e2 u2 u3 v3 v4 v5 v6 e3
  have hl : lv_has ls 8 [(0, .ref b), (1, .ref (ad 1289)), (2, .ref (bd 0)), (3, .ref q3), (4, .int (nI 0))] := by
    rw [u1, v2]
    exact lv_sub hl [4, 3, 2, 1, 0] rfl
  exact mh_lloop (fun _ h => h) cx th nc ⟨hX, hbl, Nat.not_le.mpr hbl⟩ hL hr 512 0 (by omega) (by omega) (Nat.le_of_ble_eq_true rfl) (Nat.le_of_ble_eq_true rfl) wd hl hL0
