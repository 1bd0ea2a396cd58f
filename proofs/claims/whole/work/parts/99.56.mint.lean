/-! the constructor of MintHouse -/
theorem yw_X10_init : mh_Yw yX10_init cX10_init 1 none 0 := ⟨(mh_in 69 (by decide +kernel) (by decide +kernel)), (mh_in 217 (by decide +kernel) (by decide +kernel)), by decide +kernel, by decide +kernel, by decide +kernel⟩
theorem yw_X2_init : mh_Yw yX2_init cX2_init 1 none 0 := ⟨(mh_in 65 (by decide +kernel) (by decide +kernel)), (mh_in 146 (by decide +kernel) (by decide +kernel)), by decide +kernel, by decide +kernel, by decide +kernel⟩
theorem yw_X3_init : mh_Yw yX3_init cX3_init 2 none 0 := ⟨(mh_in 62 (by decide +kernel) (by decide +kernel)), (mh_in 93 (by decide +kernel) (by decide +kernel)), by decide +kernel, by decide +kernel, by decide +kernel⟩
theorem yw_X4_init : mh_Yw yX4_init cX4_init 1 none 0 := ⟨(mh_in 67 (by decide +kernel) (by decide +kernel)), (mh_in 184 (by decide +kernel) (by decide +kernel)), by decide +kernel, by decide +kernel, by decide +kernel⟩
theorem yw_X5_init : mh_Yw yX5_init cX5_init 1 none 0 := ⟨(mh_in 68 (by decide +kernel) (by decide +kernel)), (mh_in 196 (by decide +kernel) (by decide +kernel)), by decide +kernel, by decide +kernel, by decide +kernel⟩
theorem yw_X6_init : mh_Yw yX6_init cX6_init 1 none 0 := ⟨(mh_in 70 (by decide +kernel) (by decide +kernel)), (mh_in 238 (by decide +kernel) (by decide +kernel)), by decide +kernel, by decide +kernel, by decide +kernel⟩
theorem yw_X8_init : mh_Yw yX8_init cX8_init 1 none 0 := ⟨(mh_in 72 (by decide +kernel) (by decide +kernel)), (mh_in 291 (by decide +kernel) (by decide +kernel)), by decide +kernel, by decide +kernel, by decide +kernel⟩
theorem yw_X9_init : mh_Yw yX9_init cX9_init 1 none 0 := ⟨(mh_in 71 (by decide +kernel) (by decide +kernel)), (mh_in 264 (by decide +kernel) (by decide +kernel)), by decide +kernel, by decide +kernel, by decide +kernel⟩
/-- MintHouse, as it is made -/
def mh_qX11 (o : Nat) (h' : mh_H) : Prop := ∃ ad, ad 1289 = o ∧ mh_CI h' ad mh_s0 ∧ ∀ k, k < 1290 → h' (ad k) ≠ none
set_option maxRecDepth 100000 in
set_option maxHeartbeats 4000000 in
theorem c_X11_init {l : Launch} {L0 : List Nat} {h : mh_H} {o : Nat} (ho : h o = some (.inr (11, [.null, .null, .null, .null, .null, .null, .null, .null, .null, .null, .null, .null, .null, .null, .null, .int 0]))) : mh_Mc l yX11_init (Cond.code yX11_init cX11_init 1 none :: mh_TB) (mh_rn 4 1289 181532) o L0 h (mh_qX11 o) 1289 181532 := by
  refine mh_ofC (by decide) rfl (Nat.le_of_ble_eq_true rfl) (fun p e s m below meth c D ks ls hr hin ao cx wd hl => ?_)
  have hx := cx.1.1
  have hb := cx.1.2.1
  have S_ : mh_S0 o [] (fun _ => 0) h := mh_S0.nil
  refine lv_aload_n hx hb dX11_init_0 rfl (lv_at hl 0 rfl) ?_
  refine mh_obj cx (mh_in 86 (by decide +kernel) (by decide +kernel)) wo_inst wo_code hl.1 dX11_init_1 ⟨Nat.le_of_ble_eq_true rfl, Nat.le_of_ble_eq_true rfl⟩ ?_
  refine lv_aload_n hx hb dX11_init_4 rfl (lv_at hl 0 rfl) ?_
  refine mh_new cx wd (C := RX3) (T := TX3) (N := 5) (ci := 3) tyX3 [.null, .null, .int 0, .int 0, .int 0] rfl uw_X3 tyX3_ok (mh_in 89 (by decide +kernel) (by decide +kernel)) (mh_in 90 (by decide +kernel) (by decide +kernel)) (mh_in 62 (by decide +kernel) (by decide +kernel)) (fun j hj => by
    rcases (show j = 0 ∨ j = 1 ∨ j = 2 ∨ j = 3 ∨ j = 4 by omega) with rfl | rfl | rfl | rfl | rfl <;> rfl) (Nat.le_of_ble_eq_true rfl) (Nat.le_of_ble_eq_true rfl) dX11_init_5 (fun q0 L H e0 wd => ?_)
  have x0 : mh_up h q0 (.inr (3, [.null, .null, .int 0, .int 0, .int 0])) q0 = some (.inr (3, [.null, .null, .int 0, .int 0, .int 0])) := mh_up_eq _ _ _
  refine lv_dup hx hb dX11_init_8 rfl ?_
  refine mh_callD cx ao wd yw_X3_init rfl (mh_in 91 (by decide +kernel) (by decide +kernel)) (mh_in 92 (by decide +kernel) (by decide +kernel)) hl.1 (Nat.le_of_ble_eq_true rfl) dX11_init_9 ⟨Nat.le_of_ble_eq_true rfl, Nat.le_of_ble_eq_true rfl⟩ ⟨Nat.le_of_ble_eq_true rfl, Nat.le_of_ble_eq_true rfl⟩ (c_X3_init x0) (fun L g0 H locs hp0 wd => ?_)
  obtain ⟨k0, ad0, S0⟩ := mh_S0.step (p := 1008) (Nat.le_of_ble_eq_true rfl) S_ (by rw [ho]; exact fun z => by cases z) e0 rfl (hp0)
  have S0 : mh_S0 o [q0] ad0 g0 := S0
  have oa0 : g0 o = some (.inr (11, [.null, .null, .null, .null, .null, .null, .null, .null, .null, .null, .null, .null, .null, .null, .null, .int 0])) := k0.trans ho
  refine mh_putF cx wd hin (ci := 11) (k := 0) (C := RX11) (T := TX11) (N := 16) (ty0 := tyX11) (ty := (.object RX3)) oa0 rfl (by decide) uw_X11 (mh_in 307 (by decide +kernel) (by decide +kernel)) tyX11_ok nmX11 rfl rfl (by decide +kernel) rfl rfl (Nat.le_of_ble_eq_true rfl) dX11_init_12 (fun H locs wd => ?_)
  obtain ⟨h0, eh0⟩ : ∃ x, x = mh_up g0 o (.inr (11, [.ref q0, .null, .null, .null, .null, .null, .null, .null, .null, .null, .null, .null, .null, .null, .null, .int 0])) := ⟨_, rfl⟩
  have wd : mh_W D ks L (mh_A L0 s.heap.size) s.heap h0 H locs := by rw [eh0]; exact wd
  have T0 : mh_S0 o [q0] ad0 h0 := by rw [eh0]; exact S0.set (Nat.le_of_ble_eq_true rfl)
  have ob0 : h0 o = some (.inr (11, [.ref q0, .null, .null, .null, .null, .null, .null, .null, .null, .null, .null, .null, .null, .null, .null, .int 0])) := by rw [eh0]; exact mh_up_eq _ _ _
  refine lv_aload_n hx hb dX11_init_15 rfl (lv_at hl 0 rfl) ?_
  refine mh_new cx wd (C := RX2) (T := TX2) (N := 5) (ci := 2) tyX2 [.null, .null, .null, .int 0, .int 0] rfl uw_X2 tyX2_ok (mh_in 142 (by decide +kernel) (by decide +kernel)) (mh_in 143 (by decide +kernel) (by decide +kernel)) (mh_in 65 (by decide +kernel) (by decide +kernel)) (fun j hj => by
    rcases (show j = 0 ∨ j = 1 ∨ j = 2 ∨ j = 3 ∨ j = 4 by omega) with rfl | rfl | rfl | rfl | rfl <;> rfl) (Nat.le_of_ble_eq_true rfl) (Nat.le_of_ble_eq_true rfl) dX11_init_16 (fun q1 L H e1 wd => ?_)
  have x1 : mh_up h0 q1 (.inr (2, [.null, .null, .null, .int 0, .int 0])) q1 = some (.inr (2, [.null, .null, .null, .int 0, .int 0])) := mh_up_eq _ _ _
  refine lv_dup hx hb dX11_init_19 rfl ?_
  refine mh_callC (host := "MintHouse") cx ao wd yw_X2_init rfl (mh_nin 144 (by decide +kernel) (by decide +kernel)) (mh_in 145 (by decide +kernel) (by decide +kernel)) hl.1 (Nat.le_of_ble_eq_true rfl) dX11_init_20 ⟨Nat.le_of_ble_eq_true rfl, Nat.le_of_ble_eq_true rfl⟩ ⟨Nat.le_of_ble_eq_true rfl, Nat.le_of_ble_eq_true rfl⟩ (c_X2_init x1) (fun L g1 H locs hp1 wd => ?_)
  obtain ⟨k1, ad1, S1⟩ := mh_S0.step (p := 0) (Nat.le_of_ble_eq_true rfl) T0 (by rw [ob0]; exact fun z => by cases z) e1 rfl (mh_bX2 hp1)
  have S1 : mh_S0 o [q0, q1] ad1 g1 := S1
  have oa1 : g1 o = some (.inr (11, [.ref q0, .null, .null, .null, .null, .null, .null, .null, .null, .null, .null, .null, .null, .null, .null, .int 0])) := k1.trans ob0
  refine mh_putF cx wd hin (ci := 11) (k := 1) (C := RX11) (T := TX11) (N := 16) (ty0 := tyX11) (ty := (.object RX2)) oa1 rfl (by decide) uw_X11 (mh_in 308 (by decide +kernel) (by decide +kernel)) tyX11_ok nmX11 rfl rfl (by decide +kernel) rfl rfl (Nat.le_of_ble_eq_true rfl) dX11_init_23 (fun H locs wd => ?_)
  obtain ⟨h1, eh1⟩ : ∃ x, x = mh_up g1 o (.inr (11, [.ref q0, .ref q1, .null, .null, .null, .null, .null, .null, .null, .null, .null, .null, .null, .null, .null, .int 0])) := ⟨_, rfl⟩
  have wd : mh_W D ks L (mh_A L0 s.heap.size) s.heap h1 H locs := by rw [eh1]; exact wd
  have T1 : mh_S0 o [q0, q1] ad1 h1 := by rw [eh1]; exact S1.set (Nat.le_of_ble_eq_true rfl)
  have ob1 : h1 o = some (.inr (11, [.ref q0, .ref q1, .null, .null, .null, .null, .null, .null, .null, .null, .null, .null, .null, .null, .null, .int 0])) := by rw [eh1]; exact mh_up_eq _ _ _
  refine lv_aload_n hx hb dX11_init_26 rfl (lv_at hl 0 rfl) ?_
  refine mh_new cx wd (C := RX4) (T := TX4) (N := 1) (ci := 4) tyX4 [.null] rfl uw_X4 tyX4_ok (mh_in 180 (by decide +kernel) (by decide +kernel)) (mh_in 181 (by decide +kernel) (by decide +kernel)) (mh_in 67 (by decide +kernel) (by decide +kernel)) (fun j hj => by
    obtain rfl : j = 0 := by omega
    rfl) (Nat.le_of_ble_eq_true rfl) (Nat.le_of_ble_eq_true rfl) dX11_init_27 (fun q2 L H e2 wd => ?_)
  have x2 : mh_up h1 q2 (.inr (4, [.null])) q2 = some (.inr (4, [.null])) := mh_up_eq _ _ _
  refine lv_dup hx hb dX11_init_30 rfl ?_
  refine mh_callC (host := "MintHouse") cx ao wd yw_X4_init rfl (mh_nin 182 (by decide +kernel) (by decide +kernel)) (mh_in 183 (by decide +kernel) (by decide +kernel)) hl.1 (Nat.le_of_ble_eq_true rfl) dX11_init_31 ⟨Nat.le_of_ble_eq_true rfl, Nat.le_of_ble_eq_true rfl⟩ ⟨Nat.le_of_ble_eq_true rfl, Nat.le_of_ble_eq_true rfl⟩ (c_X4_init x2) (fun L g2 H locs hp2 wd => ?_)
  obtain ⟨k2, ad2, S2⟩ := mh_S0.step (p := 0) (Nat.le_of_ble_eq_true rfl) T1 (by rw [ob1]; exact fun z => by cases z) e2 rfl (mh_bX4_2 hp2)
  have S2 : mh_S0 o [q0, q1, q2] ad2 g2 := S2
  have oa2 : g2 o = some (.inr (11, [.ref q0, .ref q1, .null, .null, .null, .null, .null, .null, .null, .null, .null, .null, .null, .null, .null, .int 0])) := k2.trans ob1
  refine mh_putF cx wd hin (ci := 11) (k := 2) (C := RX11) (T := TX11) (N := 16) (ty0 := tyX11) (ty := (.object RX4)) oa2 rfl (by decide) uw_X11 (mh_in 309 (by decide +kernel) (by decide +kernel)) tyX11_ok nmX11 rfl rfl (by decide +kernel) rfl rfl (Nat.le_of_ble_eq_true rfl) dX11_init_34 (fun H locs wd => ?_)
  obtain ⟨h2, eh2⟩ : ∃ x, x = mh_up g2 o (.inr (11, [.ref q0, .ref q1, .ref q2, .null, .null, .null, .null, .null, .null, .null, .null, .null, .null, .null, .null, .int 0])) := ⟨_, rfl⟩
  have wd : mh_W D ks L (mh_A L0 s.heap.size) s.heap h2 H locs := by rw [eh2]; exact wd
  have T2 : mh_S0 o [q0, q1, q2] ad2 h2 := by rw [eh2]; exact S2.set (Nat.le_of_ble_eq_true rfl)
  have ob2 : h2 o = some (.inr (11, [.ref q0, .ref q1, .ref q2, .null, .null, .null, .null, .null, .null, .null, .null, .null, .null, .null, .null, .int 0])) := by rw [eh2]; exact mh_up_eq _ _ _
  refine lv_aload_n hx hb dX11_init_37 rfl (lv_at hl 0 rfl) ?_
  refine mh_new cx wd (C := RX4) (T := TX4) (N := 1) (ci := 4) tyX4 [.null] rfl uw_X4 tyX4_ok (mh_in 180 (by decide +kernel) (by decide +kernel)) (mh_in 181 (by decide +kernel) (by decide +kernel)) (mh_in 67 (by decide +kernel) (by decide +kernel)) (fun j hj => by
    obtain rfl : j = 0 := by omega
    rfl) (Nat.le_of_ble_eq_true rfl) (Nat.le_of_ble_eq_true rfl) dX11_init_38 (fun q3 L H e3 wd => ?_)
  have x3 : mh_up h2 q3 (.inr (4, [.null])) q3 = some (.inr (4, [.null])) := mh_up_eq _ _ _
  refine lv_dup hx hb dX11_init_41 rfl ?_
  refine mh_callC (host := "MintHouse") cx ao wd yw_X4_init rfl (mh_nin 182 (by decide +kernel) (by decide +kernel)) (mh_in 183 (by decide +kernel) (by decide +kernel)) hl.1 (Nat.le_of_ble_eq_true rfl) dX11_init_42 ⟨Nat.le_of_ble_eq_true rfl, Nat.le_of_ble_eq_true rfl⟩ ⟨Nat.le_of_ble_eq_true rfl, Nat.le_of_ble_eq_true rfl⟩ (c_X4_init x3) (fun L g3 H locs hp3 wd => ?_)
  obtain ⟨k3, ad3, S3⟩ := mh_S0.step (p := 0) (Nat.le_of_ble_eq_true rfl) T2 (by rw [ob2]; exact fun z => by cases z) e3 rfl (mh_bX4_3 hp3)
  have S3 : mh_S0 o [q0, q1, q2, q3] ad3 g3 := S3
  have oa3 : g3 o = some (.inr (11, [.ref q0, .ref q1, .ref q2, .null, .null, .null, .null, .null, .null, .null, .null, .null, .null, .null, .null, .int 0])) := k3.trans ob2
  refine mh_putF cx wd hin (ci := 11) (k := 3) (C := RX11) (T := TX11) (N := 16) (ty0 := tyX11) (ty := (.object RX4)) oa3 rfl (by decide) uw_X11 (mh_in 310 (by decide +kernel) (by decide +kernel)) tyX11_ok nmX11 rfl rfl (by decide +kernel) rfl rfl (Nat.le_of_ble_eq_true rfl) dX11_init_45 (fun H locs wd => ?_)
  obtain ⟨h3, eh3⟩ : ∃ x, x = mh_up g3 o (.inr (11, [.ref q0, .ref q1, .ref q2, .ref q3, .null, .null, .null, .null, .null, .null, .null, .null, .null, .null, .null, .int 0])) := ⟨_, rfl⟩
  have wd : mh_W D ks L (mh_A L0 s.heap.size) s.heap h3 H locs := by rw [eh3]; exact wd
  have T3 : mh_S0 o [q0, q1, q2, q3] ad3 h3 := by rw [eh3]; exact S3.set (Nat.le_of_ble_eq_true rfl)
  have ob3 : h3 o = some (.inr (11, [.ref q0, .ref q1, .ref q2, .ref q3, .null, .null, .null, .null, .null, .null, .null, .null, .null, .null, .null, .int 0])) := by rw [eh3]; exact mh_up_eq _ _ _
  refine lv_aload_n hx hb dX11_init_48 rfl (lv_at hl 0 rfl) ?_
  refine mh_new cx wd (C := RX4) (T := TX4) (N := 1) (ci := 4) tyX4 [.null] rfl uw_X4 tyX4_ok (mh_in 180 (by decide +kernel) (by decide +kernel)) (mh_in 181 (by decide +kernel) (by decide +kernel)) (mh_in 67 (by decide +kernel) (by decide +kernel)) (fun j hj => by
    obtain rfl : j = 0 := by omega
    rfl) (Nat.le_of_ble_eq_true rfl) (Nat.le_of_ble_eq_true rfl) dX11_init_49 (fun q4 L H e4 wd => ?_)
  have x4 : mh_up h3 q4 (.inr (4, [.null])) q4 = some (.inr (4, [.null])) := mh_up_eq _ _ _
  refine lv_dup hx hb dX11_init_52 rfl ?_
  refine mh_callC (host := "MintHouse") cx ao wd yw_X4_init rfl (mh_nin 182 (by decide +kernel) (by decide +kernel)) (mh_in 183 (by decide +kernel) (by decide +kernel)) hl.1 (Nat.le_of_ble_eq_true rfl) dX11_init_53 ⟨Nat.le_of_ble_eq_true rfl, Nat.le_of_ble_eq_true rfl⟩ ⟨Nat.le_of_ble_eq_true rfl, Nat.le_of_ble_eq_true rfl⟩ (c_X4_init x4) (fun L g4 H locs hp4 wd => ?_)
  obtain ⟨k4, ad4, S4⟩ := mh_S0.step (p := 0) (Nat.le_of_ble_eq_true rfl) T3 (by rw [ob3]; exact fun z => by cases z) e4 rfl (mh_bX4_4 hp4)
  have S4 : mh_S0 o [q0, q1, q2, q3, q4] ad4 g4 := S4
  have oa4 : g4 o = some (.inr (11, [.ref q0, .ref q1, .ref q2, .ref q3, .null, .null, .null, .null, .null, .null, .null, .null, .null, .null, .null, .int 0])) := k4.trans ob3
  refine mh_putF cx wd hin (ci := 11) (k := 4) (C := RX11) (T := TX11) (N := 16) (ty0 := tyX11) (ty := (.object RX4)) oa4 rfl (by decide) uw_X11 (mh_in 311 (by decide +kernel) (by decide +kernel)) tyX11_ok nmX11 rfl rfl (by decide +kernel) rfl rfl (Nat.le_of_ble_eq_true rfl) dX11_init_56 (fun H locs wd => ?_)
  obtain ⟨h4, eh4⟩ : ∃ x, x = mh_up g4 o (.inr (11, [.ref q0, .ref q1, .ref q2, .ref q3, .ref q4, .null, .null, .null, .null, .null, .null, .null, .null, .null, .null, .int 0])) := ⟨_, rfl⟩
  have wd : mh_W D ks L (mh_A L0 s.heap.size) s.heap h4 H locs := by rw [eh4]; exact wd
  have T4 : mh_S0 o [q0, q1, q2, q3, q4] ad4 h4 := by rw [eh4]; exact S4.set (Nat.le_of_ble_eq_true rfl)
  have ob4 : h4 o = some (.inr (11, [.ref q0, .ref q1, .ref q2, .ref q3, .ref q4, .null, .null, .null, .null, .null, .null, .null, .null, .null, .null, .int 0])) := by rw [eh4]; exact mh_up_eq _ _ _
  refine lv_aload_n hx hb dX11_init_59 rfl (lv_at hl 0 rfl) ?_
  refine mh_new cx wd (C := RX5) (T := TX5) (N := 3) (ci := 5) tyX5 [.null, .null, .null] rfl uw_X5 tyX5_ok (mh_in 192 (by decide +kernel) (by decide +kernel)) (mh_in 193 (by decide +kernel) (by decide +kernel)) (mh_in 68 (by decide +kernel) (by decide +kernel)) (fun j hj => by
    rcases (show j = 0 ∨ j = 1 ∨ j = 2 by omega) with rfl | rfl | rfl <;> rfl) (Nat.le_of_ble_eq_true rfl) (Nat.le_of_ble_eq_true rfl) dX11_init_60 (fun q5 L H e5 wd => ?_)
  have x5 : mh_up h4 q5 (.inr (5, [.null, .null, .null])) q5 = some (.inr (5, [.null, .null, .null])) := mh_up_eq _ _ _
  refine lv_dup hx hb dX11_init_63 rfl ?_
  refine mh_callC (host := "MintHouse") cx ao wd yw_X5_init rfl (mh_nin 194 (by decide +kernel) (by decide +kernel)) (mh_in 195 (by decide +kernel) (by decide +kernel)) hl.1 (Nat.le_of_ble_eq_true rfl) dX11_init_64 ⟨Nat.le_of_ble_eq_true rfl, Nat.le_of_ble_eq_true rfl⟩ ⟨Nat.le_of_ble_eq_true rfl, Nat.le_of_ble_eq_true rfl⟩ (c_X5_init x5) (fun L g5 H locs hp5 wd => ?_)
  obtain ⟨k5, ad5, S5⟩ := mh_S0.step (p := 0) (Nat.le_of_ble_eq_true rfl) T4 (by rw [ob4]; exact fun z => by cases z) e5 rfl (mh_bX5 hp5)
  have S5 : mh_S0 o [q0, q1, q2, q3, q4, q5] ad5 g5 := S5
  have oa5 : g5 o = some (.inr (11, [.ref q0, .ref q1, .ref q2, .ref q3, .ref q4, .null, .null, .null, .null, .null, .null, .null, .null, .null, .null, .int 0])) := k5.trans ob4
  refine mh_putF cx wd hin (ci := 11) (k := 5) (C := RX11) (T := TX11) (N := 16) (ty0 := tyX11) (ty := (.object RX5)) oa5 rfl (by decide) uw_X11 (mh_in 312 (by decide +kernel) (by decide +kernel)) tyX11_ok nmX11 rfl rfl (by decide +kernel) rfl rfl (Nat.le_of_ble_eq_true rfl) dX11_init_67 (fun H locs wd => ?_)
  obtain ⟨h5, eh5⟩ : ∃ x, x = mh_up g5 o (.inr (11, [.ref q0, .ref q1, .ref q2, .ref q3, .ref q4, .ref q5, .null, .null, .null, .null, .null, .null, .null, .null, .null, .int 0])) := ⟨_, rfl⟩
  have wd : mh_W D ks L (mh_A L0 s.heap.size) s.heap h5 H locs := by rw [eh5]; exact wd
  have T5 : mh_S0 o [q0, q1, q2, q3, q4, q5] ad5 h5 := by rw [eh5]; exact S5.set (Nat.le_of_ble_eq_true rfl)
  have ob5 : h5 o = some (.inr (11, [.ref q0, .ref q1, .ref q2, .ref q3, .ref q4, .ref q5, .null, .null, .null, .null, .null, .null, .null, .null, .null, .int 0])) := by rw [eh5]; exact mh_up_eq _ _ _
  refine lv_aload_n hx hb dX11_init_70 rfl (lv_at hl 0 rfl) ?_
  refine mh_new cx wd (C := RX1) (T := TX1) (N := 2) (ci := 1) tyX1 [.null, .int 0] rfl uw_X1 tyX1_ok (mh_in 211 (by decide +kernel) (by decide +kernel)) (mh_in 99 (by decide +kernel) (by decide +kernel)) (mh_in 63 (by decide +kernel) (by decide +kernel)) (fun j hj => by
    rcases (show j = 0 ∨ j = 1 by omega) with rfl | rfl <;> rfl) (Nat.le_of_ble_eq_true rfl) (Nat.le_of_ble_eq_true rfl) dX11_init_71 (fun q6 L H e6 wd => ?_)
  have x6 : mh_up h5 q6 (.inr (1, [.null, .int 0])) q6 = some (.inr (1, [.null, .int 0])) := mh_up_eq _ _ _
  refine lv_dup hx hb dX11_init_74 rfl ?_
  refine mh_callC (host := "MintHouse") cx ao wd yw_X1_init rfl (mh_nin 212 (by decide +kernel) (by decide +kernel)) (mh_in 101 (by decide +kernel) (by decide +kernel)) hl.1 (Nat.le_of_ble_eq_true rfl) dX11_init_75 ⟨Nat.le_of_ble_eq_true rfl, Nat.le_of_ble_eq_true rfl⟩ ⟨Nat.le_of_ble_eq_true rfl, Nat.le_of_ble_eq_true rfl⟩ (c_X1_inq x6) (fun L g6 H locs hp6 wd => ?_)
  obtain ⟨k6, ad6, S6⟩ := mh_S0.step (p := 0) (Nat.le_of_ble_eq_true rfl) T5 (by rw [ob5]; exact fun z => by cases z) e6 rfl (mh_bX1 hp6)
  have S6 : mh_S0 o [q0, q1, q2, q3, q4, q5, q6] ad6 g6 := S6
  have oa6 : g6 o = some (.inr (11, [.ref q0, .ref q1, .ref q2, .ref q3, .ref q4, .ref q5, .null, .null, .null, .null, .null, .null, .null, .null, .null, .int 0])) := k6.trans ob5
  refine mh_putF cx wd hin (ci := 11) (k := 6) (C := RX11) (T := TX11) (N := 16) (ty0 := tyX11) (ty := (.object RX1)) oa6 rfl (by decide) uw_X11 (mh_in 313 (by decide +kernel) (by decide +kernel)) tyX11_ok nmX11 rfl rfl (by decide +kernel) rfl rfl (Nat.le_of_ble_eq_true rfl) dX11_init_78 (fun H locs wd => ?_)
  obtain ⟨h6, eh6⟩ : ∃ x, x = mh_up g6 o (.inr (11, [.ref q0, .ref q1, .ref q2, .ref q3, .ref q4, .ref q5, .ref q6, .null, .null, .null, .null, .null, .null, .null, .null, .int 0])) := ⟨_, rfl⟩
  have wd : mh_W D ks L (mh_A L0 s.heap.size) s.heap h6 H locs := by rw [eh6]; exact wd
  have T6 : mh_S0 o [q0, q1, q2, q3, q4, q5, q6] ad6 h6 := by rw [eh6]; exact S6.set (Nat.le_of_ble_eq_true rfl)
  have ob6 : h6 o = some (.inr (11, [.ref q0, .ref q1, .ref q2, .ref q3, .ref q4, .ref q5, .ref q6, .null, .null, .null, .null, .null, .null, .null, .null, .int 0])) := by rw [eh6]; exact mh_up_eq _ _ _
  refine lv_aload_n hx hb dX11_init_81 rfl (lv_at hl 0 rfl) ?_
  refine mh_new cx wd (C := RX10) (T := TX10) (N := 3) (ci := 10) tyX10 [.null, .null, .int 0] rfl uw_X10 tyX10_ok (mh_in 213 (by decide +kernel) (by decide +kernel)) (mh_in 214 (by decide +kernel) (by decide +kernel)) (mh_in 69 (by decide +kernel) (by decide +kernel)) (fun j hj => by
    rcases (show j = 0 ∨ j = 1 ∨ j = 2 by omega) with rfl | rfl | rfl <;> rfl) (Nat.le_of_ble_eq_true rfl) (Nat.le_of_ble_eq_true rfl) dX11_init_82 (fun q7 L H e7 wd => ?_)
  have x7 : mh_up h6 q7 (.inr (10, [.null, .null, .int 0])) q7 = some (.inr (10, [.null, .null, .int 0])) := mh_up_eq _ _ _
  refine lv_dup hx hb dX11_init_85 rfl ?_
  refine mh_callC (host := "MintHouse") cx ao wd yw_X10_init rfl (mh_nin 215 (by decide +kernel) (by decide +kernel)) (mh_in 216 (by decide +kernel) (by decide +kernel)) hl.1 (Nat.le_of_ble_eq_true rfl) dX11_init_86 ⟨Nat.le_of_ble_eq_true rfl, Nat.le_of_ble_eq_true rfl⟩ ⟨Nat.le_of_ble_eq_true rfl, Nat.le_of_ble_eq_true rfl⟩ (c_X10_init x7) (fun L g7 H locs hp7 wd => ?_)
  obtain ⟨k7, ad7, S7⟩ := mh_S0.step (p := 0) (Nat.le_of_ble_eq_true rfl) T6 (by rw [ob6]; exact fun z => by cases z) e7 rfl (mh_bX10 hp7)
  have S7 : mh_S0 o [q0, q1, q2, q3, q4, q5, q6, q7] ad7 g7 := S7
  have oa7 : g7 o = some (.inr (11, [.ref q0, .ref q1, .ref q2, .ref q3, .ref q4, .ref q5, .ref q6, .null, .null, .null, .null, .null, .null, .null, .null, .int 0])) := k7.trans ob6
  refine mh_putF cx wd hin (ci := 11) (k := 7) (C := RX11) (T := TX11) (N := 16) (ty0 := tyX11) (ty := (.object RX10)) oa7 rfl (by decide) uw_X11 (mh_in 314 (by decide +kernel) (by decide +kernel)) tyX11_ok nmX11 rfl rfl (by decide +kernel) rfl rfl (Nat.le_of_ble_eq_true rfl) dX11_init_89 (fun H locs wd => ?_)
  obtain ⟨h7, eh7⟩ : ∃ x, x = mh_up g7 o (.inr (11, [.ref q0, .ref q1, .ref q2, .ref q3, .ref q4, .ref q5, .ref q6, .ref q7, .null, .null, .null, .null, .null, .null, .null, .int 0])) := ⟨_, rfl⟩
  have wd : mh_W D ks L (mh_A L0 s.heap.size) s.heap h7 H locs := by rw [eh7]; exact wd
  have T7 : mh_S0 o [q0, q1, q2, q3, q4, q5, q6, q7] ad7 h7 := by rw [eh7]; exact S7.set (Nat.le_of_ble_eq_true rfl)
  have ob7 : h7 o = some (.inr (11, [.ref q0, .ref q1, .ref q2, .ref q3, .ref q4, .ref q5, .ref q6, .ref q7, .null, .null, .null, .null, .null, .null, .null, .int 0])) := by rw [eh7]; exact mh_up_eq _ _ _
  refine lv_aload_n hx hb dX11_init_92 rfl (lv_at hl 0 rfl) ?_
  refine mh_new cx wd (C := RX6) (T := TX6) (N := 5) (ci := 6) tyX6 [.null, .null, .null, .null, .int 0] rfl uw_X6 tyX6_ok (mh_in 234 (by decide +kernel) (by decide +kernel)) (mh_in 235 (by decide +kernel) (by decide +kernel)) (mh_in 70 (by decide +kernel) (by decide +kernel)) (fun j hj => by
    rcases (show j = 0 ∨ j = 1 ∨ j = 2 ∨ j = 3 ∨ j = 4 by omega) with rfl | rfl | rfl | rfl | rfl <;> rfl) (Nat.le_of_ble_eq_true rfl) (Nat.le_of_ble_eq_true rfl) dX11_init_93 (fun q8 L H e8 wd => ?_)
  have x8 : mh_up h7 q8 (.inr (6, [.null, .null, .null, .null, .int 0])) q8 = some (.inr (6, [.null, .null, .null, .null, .int 0])) := mh_up_eq _ _ _
  refine lv_dup hx hb dX11_init_96 rfl ?_
  refine mh_callC (host := "MintHouse") cx ao wd yw_X6_init rfl (mh_nin 236 (by decide +kernel) (by decide +kernel)) (mh_in 237 (by decide +kernel) (by decide +kernel)) hl.1 (Nat.le_of_ble_eq_true rfl) dX11_init_97 ⟨Nat.le_of_ble_eq_true rfl, Nat.le_of_ble_eq_true rfl⟩ ⟨Nat.le_of_ble_eq_true rfl, Nat.le_of_ble_eq_true rfl⟩ (c_X6_init x8) (fun L g8 H locs hp8 wd => ?_)
  obtain ⟨k8, ad8, S8⟩ := mh_S0.step (p := 0) (Nat.le_of_ble_eq_true rfl) T7 (by rw [ob7]; exact fun z => by cases z) e8 rfl (mh_bX6 hp8)
  have S8 : mh_S0 o [q0, q1, q2, q3, q4, q5, q6, q7, q8] ad8 g8 := S8
  have oa8 : g8 o = some (.inr (11, [.ref q0, .ref q1, .ref q2, .ref q3, .ref q4, .ref q5, .ref q6, .ref q7, .null, .null, .null, .null, .null, .null, .null, .int 0])) := k8.trans ob7
  refine mh_putF cx wd hin (ci := 11) (k := 8) (C := RX11) (T := TX11) (N := 16) (ty0 := tyX11) (ty := (.object RX6)) oa8 rfl (by decide) uw_X11 (mh_in 315 (by decide +kernel) (by decide +kernel)) tyX11_ok nmX11 rfl rfl (by decide +kernel) rfl rfl (Nat.le_of_ble_eq_true rfl) dX11_init_100 (fun H locs wd => ?_)
  obtain ⟨h8, eh8⟩ : ∃ x, x = mh_up g8 o (.inr (11, [.ref q0, .ref q1, .ref q2, .ref q3, .ref q4, .ref q5, .ref q6, .ref q7, .ref q8, .null, .null, .null, .null, .null, .null, .int 0])) := ⟨_, rfl⟩
  have wd : mh_W D ks L (mh_A L0 s.heap.size) s.heap h8 H locs := by rw [eh8]; exact wd
  have T8 : mh_S0 o [q0, q1, q2, q3, q4, q5, q6, q7, q8] ad8 h8 := by rw [eh8]; exact S8.set (Nat.le_of_ble_eq_true rfl)
  have ob8 : h8 o = some (.inr (11, [.ref q0, .ref q1, .ref q2, .ref q3, .ref q4, .ref q5, .ref q6, .ref q7, .ref q8, .null, .null, .null, .null, .null, .null, .int 0])) := by rw [eh8]; exact mh_up_eq _ _ _
  refine lv_aload_n hx hb dX11_init_103 rfl (lv_at hl 0 rfl) ?_
  refine mh_new cx wd (C := RX9) (T := TX9) (N := 6) (ci := 9) tyX9 [.null, .null, .null, .null, .int 0, .int 0] rfl uw_X9 tyX9_ok (mh_in 260 (by decide +kernel) (by decide +kernel)) (mh_in 261 (by decide +kernel) (by decide +kernel)) (mh_in 71 (by decide +kernel) (by decide +kernel)) (fun j hj => by
    rcases (show j = 0 ∨ j = 1 ∨ j = 2 ∨ j = 3 ∨ j = 4 ∨ j = 5 by omega) with rfl | rfl | rfl | rfl | rfl | rfl <;> rfl) (Nat.le_of_ble_eq_true rfl) (Nat.le_of_ble_eq_true rfl) dX11_init_104 (fun q9 L H e9 wd => ?_)
  have x9 : mh_up h8 q9 (.inr (9, [.null, .null, .null, .null, .int 0, .int 0])) q9 = some (.inr (9, [.null, .null, .null, .null, .int 0, .int 0])) := mh_up_eq _ _ _
  refine lv_dup hx hb dX11_init_107 rfl ?_
  refine mh_callC (host := "MintHouse") cx ao wd yw_X9_init rfl (mh_nin 262 (by decide +kernel) (by decide +kernel)) (mh_in 263 (by decide +kernel) (by decide +kernel)) hl.1 (Nat.le_of_ble_eq_true rfl) dX11_init_108 ⟨Nat.le_of_ble_eq_true rfl, Nat.le_of_ble_eq_true rfl⟩ ⟨Nat.le_of_ble_eq_true rfl, Nat.le_of_ble_eq_true rfl⟩ (c_X9_init x9) (fun L g9 H locs hp9 wd => ?_)
  obtain ⟨k9, ad9, S9⟩ := mh_S0.step (p := 0) (Nat.le_of_ble_eq_true rfl) T8 (by rw [ob8]; exact fun z => by cases z) e9 rfl (mh_bX9 hp9)
  have S9 : mh_S0 o [q0, q1, q2, q3, q4, q5, q6, q7, q8, q9] ad9 g9 := S9
  have oa9 : g9 o = some (.inr (11, [.ref q0, .ref q1, .ref q2, .ref q3, .ref q4, .ref q5, .ref q6, .ref q7, .ref q8, .null, .null, .null, .null, .null, .null, .int 0])) := k9.trans ob8
  refine mh_putF cx wd hin (ci := 11) (k := 9) (C := RX11) (T := TX11) (N := 16) (ty0 := tyX11) (ty := (.object RX9)) oa9 rfl (by decide) uw_X11 (mh_in 316 (by decide +kernel) (by decide +kernel)) tyX11_ok nmX11 rfl rfl (by decide +kernel) rfl rfl (Nat.le_of_ble_eq_true rfl) dX11_init_111 (fun H locs wd => ?_)
  obtain ⟨h9, eh9⟩ : ∃ x, x = mh_up g9 o (.inr (11, [.ref q0, .ref q1, .ref q2, .ref q3, .ref q4, .ref q5, .ref q6, .ref q7, .ref q8, .ref q9, .null, .null, .null, .null, .null, .int 0])) := ⟨_, rfl⟩
  have wd : mh_W D ks L (mh_A L0 s.heap.size) s.heap h9 H locs := by rw [eh9]; exact wd
  have T9 : mh_S0 o [q0, q1, q2, q3, q4, q5, q6, q7, q8, q9] ad9 h9 := by rw [eh9]; exact S9.set (Nat.le_of_ble_eq_true rfl)
  have ob9 : h9 o = some (.inr (11, [.ref q0, .ref q1, .ref q2, .ref q3, .ref q4, .ref q5, .ref q6, .ref q7, .ref q8, .ref q9, .null, .null, .null, .null, .null, .int 0])) := by rw [eh9]; exact mh_up_eq _ _ _
  refine lv_aload_n hx hb dX11_init_114 rfl (lv_at hl 0 rfl) ?_
  refine mh_new cx wd (C := RX8) (T := TX8) (N := 3) (ci := 8) tyX8 [.null, .null, .int 0] rfl uw_X8 tyX8_ok (mh_in 287 (by decide +kernel) (by decide +kernel)) (mh_in 288 (by decide +kernel) (by decide +kernel)) (mh_in 72 (by decide +kernel) (by decide +kernel)) (fun j hj => by
    rcases (show j = 0 ∨ j = 1 ∨ j = 2 by omega) with rfl | rfl | rfl <;> rfl) (Nat.le_of_ble_eq_true rfl) (Nat.le_of_ble_eq_true rfl) dX11_init_115 (fun q10 L H e10 wd => ?_)
  have x10 : mh_up h9 q10 (.inr (8, [.null, .null, .int 0])) q10 = some (.inr (8, [.null, .null, .int 0])) := mh_up_eq _ _ _
  refine lv_dup hx hb dX11_init_118 rfl ?_
  refine mh_callC (host := "MintHouse") cx ao wd yw_X8_init rfl (mh_nin 289 (by decide +kernel) (by decide +kernel)) (mh_in 290 (by decide +kernel) (by decide +kernel)) hl.1 (Nat.le_of_ble_eq_true rfl) dX11_init_119 ⟨Nat.le_of_ble_eq_true rfl, Nat.le_of_ble_eq_true rfl⟩ ⟨Nat.le_of_ble_eq_true rfl, Nat.le_of_ble_eq_true rfl⟩ (c_X8_init x10) (fun L g10 H locs hp10 wd => ?_)
  obtain ⟨k10, ad10, S10⟩ := mh_S0.step (p := 0) (Nat.le_of_ble_eq_true rfl) T9 (by rw [ob9]; exact fun z => by cases z) e10 rfl (mh_bX8_10 hp10)
  have S10 : mh_S0 o [q0, q1, q2, q3, q4, q5, q6, q7, q8, q9, q10] ad10 g10 := S10
  have oa10 : g10 o = some (.inr (11, [.ref q0, .ref q1, .ref q2, .ref q3, .ref q4, .ref q5, .ref q6, .ref q7, .ref q8, .ref q9, .null, .null, .null, .null, .null, .int 0])) := k10.trans ob9
  refine mh_putF cx wd hin (ci := 11) (k := 10) (C := RX11) (T := TX11) (N := 16) (ty0 := tyX11) (ty := (.object RX8)) oa10 rfl (by decide) uw_X11 (mh_in 317 (by decide +kernel) (by decide +kernel)) tyX11_ok nmX11 rfl rfl (by decide +kernel) rfl rfl (Nat.le_of_ble_eq_true rfl) dX11_init_122 (fun H locs wd => ?_)
  obtain ⟨h10, eh10⟩ : ∃ x, x = mh_up g10 o (.inr (11, [.ref q0, .ref q1, .ref q2, .ref q3, .ref q4, .ref q5, .ref q6, .ref q7, .ref q8, .ref q9, .ref q10, .null, .null, .null, .null, .int 0])) := ⟨_, rfl⟩
  have wd : mh_W D ks L (mh_A L0 s.heap.size) s.heap h10 H locs := by rw [eh10]; exact wd
  have T10 : mh_S0 o [q0, q1, q2, q3, q4, q5, q6, q7, q8, q9, q10] ad10 h10 := by rw [eh10]; exact S10.set (Nat.le_of_ble_eq_true rfl)
  have ob10 : h10 o = some (.inr (11, [.ref q0, .ref q1, .ref q2, .ref q3, .ref q4, .ref q5, .ref q6, .ref q7, .ref q8, .ref q9, .ref q10, .null, .null, .null, .null, .int 0])) := by rw [eh10]; exact mh_up_eq _ _ _
  refine lv_aload_n hx hb dX11_init_125 rfl (lv_at hl 0 rfl) ?_
  refine mh_new cx wd (C := RX8) (T := TX8) (N := 3) (ci := 8) tyX8 [.null, .null, .int 0] rfl uw_X8 tyX8_ok (mh_in 287 (by decide +kernel) (by decide +kernel)) (mh_in 288 (by decide +kernel) (by decide +kernel)) (mh_in 72 (by decide +kernel) (by decide +kernel)) (fun j hj => by
    rcases (show j = 0 ∨ j = 1 ∨ j = 2 by omega) with rfl | rfl | rfl <;> rfl) (Nat.le_of_ble_eq_true rfl) (Nat.le_of_ble_eq_true rfl) dX11_init_126 (fun q11 L H e11 wd => ?_)
  have x11 : mh_up h10 q11 (.inr (8, [.null, .null, .int 0])) q11 = some (.inr (8, [.null, .null, .int 0])) := mh_up_eq _ _ _
  refine lv_dup hx hb dX11_init_129 rfl ?_
  refine mh_callC (host := "MintHouse") cx ao wd yw_X8_init rfl (mh_nin 289 (by decide +kernel) (by decide +kernel)) (mh_in 290 (by decide +kernel) (by decide +kernel)) hl.1 (Nat.le_of_ble_eq_true rfl) dX11_init_130 ⟨Nat.le_of_ble_eq_true rfl, Nat.le_of_ble_eq_true rfl⟩ ⟨Nat.le_of_ble_eq_true rfl, Nat.le_of_ble_eq_true rfl⟩ (c_X8_init x11) (fun L g11 H locs hp11 wd => ?_)
  obtain ⟨k11, ad11, S11⟩ := mh_S0.step (p := 0) (Nat.le_of_ble_eq_true rfl) T10 (by rw [ob10]; exact fun z => by cases z) e11 rfl (mh_bX8_11 hp11)
  have S11 : mh_S0 o [q0, q1, q2, q3, q4, q5, q6, q7, q8, q9, q10, q11] ad11 g11 := S11
  have oa11 : g11 o = some (.inr (11, [.ref q0, .ref q1, .ref q2, .ref q3, .ref q4, .ref q5, .ref q6, .ref q7, .ref q8, .ref q9, .ref q10, .null, .null, .null, .null, .int 0])) := k11.trans ob10
  refine mh_putF cx wd hin (ci := 11) (k := 11) (C := RX11) (T := TX11) (N := 16) (ty0 := tyX11) (ty := (.object RX8)) oa11 rfl (by decide) uw_X11 (mh_in 318 (by decide +kernel) (by decide +kernel)) tyX11_ok nmX11 rfl rfl (by decide +kernel) rfl rfl (Nat.le_of_ble_eq_true rfl) dX11_init_133 (fun H locs wd => ?_)
  obtain ⟨h11, eh11⟩ : ∃ x, x = mh_up g11 o (.inr (11, [.ref q0, .ref q1, .ref q2, .ref q3, .ref q4, .ref q5, .ref q6, .ref q7, .ref q8, .ref q9, .ref q10, .ref q11, .null, .null, .null, .int 0])) := ⟨_, rfl⟩
  have wd : mh_W D ks L (mh_A L0 s.heap.size) s.heap h11 H locs := by rw [eh11]; exact wd
  have T11 : mh_S0 o [q0, q1, q2, q3, q4, q5, q6, q7, q8, q9, q10, q11] ad11 h11 := by rw [eh11]; exact S11.set (Nat.le_of_ble_eq_true rfl)
  have ob11 : h11 o = some (.inr (11, [.ref q0, .ref q1, .ref q2, .ref q3, .ref q4, .ref q5, .ref q6, .ref q7, .ref q8, .ref q9, .ref q10, .ref q11, .null, .null, .null, .int 0])) := by rw [eh11]; exact mh_up_eq _ _ _
  refine lv_aload_n hx hb dX11_init_136 rfl (lv_at hl 0 rfl) ?_
  refine mh_new cx wd (C := RX7) (T := TX7) (N := 2) (ci := 7) tyX7 [.null, .null] rfl uw_X7 tyX7_ok (mh_in 305 (by decide +kernel) (by decide +kernel)) (mh_in 112 (by decide +kernel) (by decide +kernel)) (mh_in 64 (by decide +kernel) (by decide +kernel)) (fun j hj => by
    rcases (show j = 0 ∨ j = 1 by omega) with rfl | rfl <;> rfl) (Nat.le_of_ble_eq_true rfl) (Nat.le_of_ble_eq_true rfl) dX11_init_137 (fun q12 L H e12 wd => ?_)
  have x12 : mh_up h11 q12 (.inr (7, [.null, .null])) q12 = some (.inr (7, [.null, .null])) := mh_up_eq _ _ _
  refine lv_dup hx hb dX11_init_140 rfl ?_
  refine mh_callC (host := "MintHouse") cx ao wd yw_X7_init rfl (mh_nin 306 (by decide +kernel) (by decide +kernel)) (mh_in 114 (by decide +kernel) (by decide +kernel)) hl.1 (Nat.le_of_ble_eq_true rfl) dX11_init_141 ⟨Nat.le_of_ble_eq_true rfl, Nat.le_of_ble_eq_true rfl⟩ ⟨Nat.le_of_ble_eq_true rfl, Nat.le_of_ble_eq_true rfl⟩ (c_X7_init x12) (fun L g12 H locs hp12 wd => ?_)
  obtain ⟨k12, ad12, S12⟩ := mh_S0.step (p := 0) (Nat.le_of_ble_eq_true rfl) T11 (by rw [ob11]; exact fun z => by cases z) e12 rfl (mh_bX7_12 hp12)
  have S12 : mh_S0 o [q0, q1, q2, q3, q4, q5, q6, q7, q8, q9, q10, q11, q12] ad12 g12 := S12
  have oa12 : g12 o = some (.inr (11, [.ref q0, .ref q1, .ref q2, .ref q3, .ref q4, .ref q5, .ref q6, .ref q7, .ref q8, .ref q9, .ref q10, .ref q11, .null, .null, .null, .int 0])) := k12.trans ob11
  refine mh_putF cx wd hin (ci := 11) (k := 12) (C := RX11) (T := TX11) (N := 16) (ty0 := tyX11) (ty := (.object RX7)) oa12 rfl (by decide) uw_X11 (mh_in 319 (by decide +kernel) (by decide +kernel)) tyX11_ok nmX11 rfl rfl (by decide +kernel) rfl rfl (Nat.le_of_ble_eq_true rfl) dX11_init_144 (fun H locs wd => ?_)
  obtain ⟨h12, eh12⟩ : ∃ x, x = mh_up g12 o (.inr (11, [.ref q0, .ref q1, .ref q2, .ref q3, .ref q4, .ref q5, .ref q6, .ref q7, .ref q8, .ref q9, .ref q10, .ref q11, .ref q12, .null, .null, .int 0])) := ⟨_, rfl⟩
  have wd : mh_W D ks L (mh_A L0 s.heap.size) s.heap h12 H locs := by rw [eh12]; exact wd
  have T12 : mh_S0 o [q0, q1, q2, q3, q4, q5, q6, q7, q8, q9, q10, q11, q12] ad12 h12 := by rw [eh12]; exact S12.set (Nat.le_of_ble_eq_true rfl)
  have ob12 : h12 o = some (.inr (11, [.ref q0, .ref q1, .ref q2, .ref q3, .ref q4, .ref q5, .ref q6, .ref q7, .ref q8, .ref q9, .ref q10, .ref q11, .ref q12, .null, .null, .int 0])) := by rw [eh12]; exact mh_up_eq _ _ _
  refine lv_aload_n hx hb dX11_init_147 rfl (lv_at hl 0 rfl) ?_
  refine mh_new cx wd (C := RX7) (T := TX7) (N := 2) (ci := 7) tyX7 [.null, .null] rfl uw_X7 tyX7_ok (mh_in 305 (by decide +kernel) (by decide +kernel)) (mh_in 112 (by decide +kernel) (by decide +kernel)) (mh_in 64 (by decide +kernel) (by decide +kernel)) (fun j hj => by
    rcases (show j = 0 ∨ j = 1 by omega) with rfl | rfl <;> rfl) (Nat.le_of_ble_eq_true rfl) (Nat.le_of_ble_eq_true rfl) dX11_init_148 (fun q13 L H e13 wd => ?_)
  have x13 : mh_up h12 q13 (.inr (7, [.null, .null])) q13 = some (.inr (7, [.null, .null])) := mh_up_eq _ _ _
  refine lv_dup hx hb dX11_init_151 rfl ?_
  refine mh_callC (host := "MintHouse") cx ao wd yw_X7_init rfl (mh_nin 306 (by decide +kernel) (by decide +kernel)) (mh_in 114 (by decide +kernel) (by decide +kernel)) hl.1 (Nat.le_of_ble_eq_true rfl) dX11_init_152 ⟨Nat.le_of_ble_eq_true rfl, Nat.le_of_ble_eq_true rfl⟩ ⟨Nat.le_of_ble_eq_true rfl, Nat.le_of_ble_eq_true rfl⟩ (c_X7_init x13) (fun L g13 H locs hp13 wd => ?_)
  obtain ⟨k13, ad13, S13⟩ := mh_S0.step (p := 0) (Nat.le_of_ble_eq_true rfl) T12 (by rw [ob12]; exact fun z => by cases z) e13 rfl (mh_bX7_13 hp13)
  have S13 : mh_S0 o [q0, q1, q2, q3, q4, q5, q6, q7, q8, q9, q10, q11, q12, q13] ad13 g13 := S13
  have oa13 : g13 o = some (.inr (11, [.ref q0, .ref q1, .ref q2, .ref q3, .ref q4, .ref q5, .ref q6, .ref q7, .ref q8, .ref q9, .ref q10, .ref q11, .ref q12, .null, .null, .int 0])) := k13.trans ob12
  refine mh_putF cx wd hin (ci := 11) (k := 13) (C := RX11) (T := TX11) (N := 16) (ty0 := tyX11) (ty := (.object RX7)) oa13 rfl (by decide) uw_X11 (mh_in 320 (by decide +kernel) (by decide +kernel)) tyX11_ok nmX11 rfl rfl (by decide +kernel) rfl rfl (Nat.le_of_ble_eq_true rfl) dX11_init_155 (fun H locs wd => ?_)
  obtain ⟨h13, eh13⟩ : ∃ x, x = mh_up g13 o (.inr (11, [.ref q0, .ref q1, .ref q2, .ref q3, .ref q4, .ref q5, .ref q6, .ref q7, .ref q8, .ref q9, .ref q10, .ref q11, .ref q12, .ref q13, .null, .int 0])) := ⟨_, rfl⟩
  have wd : mh_W D ks L (mh_A L0 s.heap.size) s.heap h13 H locs := by rw [eh13]; exact wd
  have T13 : mh_S0 o [q0, q1, q2, q3, q4, q5, q6, q7, q8, q9, q10, q11, q12, q13] ad13 h13 := by rw [eh13]; exact S13.set (Nat.le_of_ble_eq_true rfl)
  have ob13 : h13 o = some (.inr (11, [.ref q0, .ref q1, .ref q2, .ref q3, .ref q4, .ref q5, .ref q6, .ref q7, .ref q8, .ref q9, .ref q10, .ref q11, .ref q12, .ref q13, .null, .int 0])) := by rw [eh13]; exact mh_up_eq _ _ _
  refine lv_aload_n hx hb dX11_init_158 rfl (lv_at hl 0 rfl) ?_
  refine mh_new cx wd (C := RX7) (T := TX7) (N := 2) (ci := 7) tyX7 [.null, .null] rfl uw_X7 tyX7_ok (mh_in 305 (by decide +kernel) (by decide +kernel)) (mh_in 112 (by decide +kernel) (by decide +kernel)) (mh_in 64 (by decide +kernel) (by decide +kernel)) (fun j hj => by
    rcases (show j = 0 ∨ j = 1 by omega) with rfl | rfl <;> rfl) (Nat.le_of_ble_eq_true rfl) (Nat.le_of_ble_eq_true rfl) dX11_init_159 (fun q14 L H e14 wd => ?_)
  have x14 : mh_up h13 q14 (.inr (7, [.null, .null])) q14 = some (.inr (7, [.null, .null])) := mh_up_eq _ _ _
  refine lv_dup hx hb dX11_init_162 rfl ?_
  refine mh_callC (host := "MintHouse") cx ao wd yw_X7_init rfl (mh_nin 306 (by decide +kernel) (by decide +kernel)) (mh_in 114 (by decide +kernel) (by decide +kernel)) hl.1 (Nat.le_of_ble_eq_true rfl) dX11_init_163 ⟨Nat.le_of_ble_eq_true rfl, Nat.le_of_ble_eq_true rfl⟩ ⟨Nat.le_of_ble_eq_true rfl, Nat.le_of_ble_eq_true rfl⟩ (c_X7_init x14) (fun L g14 H locs hp14 wd => ?_)
  obtain ⟨k14, ad14, S14⟩ := mh_S0.step (p := 0) (Nat.le_of_ble_eq_true rfl) T13 (by rw [ob13]; exact fun z => by cases z) e14 rfl (mh_bX7_14 hp14)
  have S14 : mh_S0 o [q0, q1, q2, q3, q4, q5, q6, q7, q8, q9, q10, q11, q12, q13, q14] ad14 g14 := S14
  have oa14 : g14 o = some (.inr (11, [.ref q0, .ref q1, .ref q2, .ref q3, .ref q4, .ref q5, .ref q6, .ref q7, .ref q8, .ref q9, .ref q10, .ref q11, .ref q12, .ref q13, .null, .int 0])) := k14.trans ob13
  refine mh_putF cx wd hin (ci := 11) (k := 14) (C := RX11) (T := TX11) (N := 16) (ty0 := tyX11) (ty := (.object RX7)) oa14 rfl (by decide) uw_X11 (mh_in 321 (by decide +kernel) (by decide +kernel)) tyX11_ok nmX11 rfl rfl (by decide +kernel) rfl rfl (Nat.le_of_ble_eq_true rfl) dX11_init_166 (fun H locs wd => ?_)
  obtain ⟨h14, eh14⟩ : ∃ x, x = mh_up g14 o (.inr (11, [.ref q0, .ref q1, .ref q2, .ref q3, .ref q4, .ref q5, .ref q6, .ref q7, .ref q8, .ref q9, .ref q10, .ref q11, .ref q12, .ref q13, .ref q14, .int 0])) := ⟨_, rfl⟩
  have wd : mh_W D ks L (mh_A L0 s.heap.size) s.heap h14 H locs := by rw [eh14]; exact wd
  have T14 : mh_S0 o [q0, q1, q2, q3, q4, q5, q6, q7, q8, q9, q10, q11, q12, q13, q14] ad14 h14 := by rw [eh14]; exact S14.set (Nat.le_of_ble_eq_true rfl)
  have ob14 : h14 o = some (.inr (11, [.ref q0, .ref q1, .ref q2, .ref q3, .ref q4, .ref q5, .ref q6, .ref q7, .ref q8, .ref q9, .ref q10, .ref q11, .ref q12, .ref q13, .ref q14, .int 0])) := by rw [eh14]; exact mh_up_eq _ _ _
  refine lv_aload_n hx hb dX11_init_169 rfl (lv_at hl 0 rfl) ?_
  refine lv_iconst (v := 0) hx hb dX11_init_170 (by decide) ?_
  refine mh_putB (k := 15) cx wd ob14 (Nat.le_of_ble_eq_true rfl) (by decide) fp_X11_98 dX11_init_171 (fun H locs wd => ?_)
  obtain ⟨hz, ehz⟩ : ∃ x, x = mh_up h14 o (.inr (11, [.ref q0, .ref q1, .ref q2, .ref q3, .ref q4, .ref q5, .ref q6, .ref q7, .ref q8, .ref q9, .ref q10, .ref q11, .ref q12, .ref q13, .ref q14, .int 0])) := ⟨_, rfl⟩
  have wd : mh_W D ks L (mh_A L0 s.heap.size) s.heap hz H locs := by rw [ehz]; exact wd
  have Tz : mh_S0 o [q0, q1, q2, q3, q4, q5, q6, q7, q8, q9, q10, q11, q12, q13, q14] ad14 hz := by rw [ehz]; exact T14.set (Nat.le_of_ble_eq_true rfl)
  have obz : hz o = some (.inr (11, [.ref q0, .ref q1, .ref q2, .ref q3, .ref q4, .ref q5, .ref q6, .ref q7, .ref q8, .ref q9, .ref q10, .ref q11, .ref q12, .ref q13, .ref q14, .int 0])) := by rw [ehz]; exact mh_up_eq _ _ _
  obtain ⟨ad2, h2, u1, u2, u3, u4⟩ := Tz.fin obz
  exact mh_cret cx (wd.kin u1) hr ⟨ad2, u2, u3, u4⟩ dX11_init_174 ⟨Nat.le_of_ble_eq_true rfl, Nat.le_of_ble_eq_true rfl⟩
