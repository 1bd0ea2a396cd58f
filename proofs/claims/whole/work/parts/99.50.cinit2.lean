theorem wo_boolean : Cond.arrayClass .boolean ∈ mh_TB := mh_in 210 (by decide +kernel) (by decide +kernel)
theorem wo_long : Cond.arrayClass .long ∈ mh_TB := mh_in 233 (by decide +kernel) (by decide +kernel)
theorem yw_X1_init : mh_Yw yX1_init cX1_init 1 none 0 := ⟨(mh_in 63 (by decide +kernel) (by decide +kernel)), (mh_in 102 (by decide +kernel) (by decide +kernel)), by decide +kernel, by decide +kernel, by decide +kernel⟩
-- Coins, by program
set_option maxRecDepth 100000 in
set_option maxHeartbeats 4000000 in
theorem c_X1_inq {l : Launch} {L0 : List Nat} {h : mh_H} {o : Nat} (ho : h o = some (.inr (1, [.null, .int 0]))) : mh_Mc l yX1_init (Cond.code yX1_init cX1_init 1 none :: mh_TB) (mh_rn 1 1 12) o L0 h (mh_qX1 h o) 1 12 := by
  refine mh_ofC (by decide) rfl (Nat.le_of_ble_eq_true rfl) (fun p e s m below meth c D ks ls hr hin ao cx wd hl => ?_)
  have hx := cx.1.1
  have hb := cx.1.2.1
  have R0 : mh_Rg h o h [] := mh_Rg.nil (by rw [ho]; exact fun z => by cases z)
  refine lv_aload_n hx hb dX1_init_0 rfl (lv_at hl 0 rfl) ?_
  refine mh_obj cx (mh_in 103 (by decide +kernel) (by decide +kernel)) wo_inst wo_code hl.1 dX1_init_1 ⟨Nat.le_of_ble_eq_true rfl, Nat.le_of_ble_eq_true rfl⟩ ?_
  refine lv_aload_n hx hb dX1_init_4 rfl (lv_at hl 0 rfl) ?_
  refine lv_bipush (v := 12) hx hb dX1_init_5 (by decide) ?_
  refine mh_nwi (N' := 12) cx wd wo_int (by decide) rfl (by decide) (Nat.le_of_ble_eq_true rfl) (Nat.le_of_ble_eq_true rfl) dX1_init_7 (fun q1 L H e2 wd => ?_)
  obtain ⟨h3, eh4⟩ : ∃ x, x = mh_up h q1 (mh_Ni 12) := ⟨_, rfl⟩
  rw [← eh4] at wd
  have R5 : mh_Rg h o h3 ([q1]) := by rw [eh4]; exact R0.add e2
  have n6 : q1 ≠ o := fun z => by rw [z, ho] at e2; cases e2
  have ob7 : h3 o = some (.inr (1, [.null, .int 0])) := by rw [eh4, mh_up_ne (fun z => n6 z.symm)]; exact ho
  have f8 : h3 q1 = some (mh_Ni 12) := by rw [eh4]; exact mh_up_eq _ _ _
  refine mh_putF cx wd hin (ci := 1) (k := 0) (C := RX1) (T := TX1) (N := 2) (ty0 := tyX1) (ty := .array .int) ob7 rfl (by decide) uw_X1 (mh_in 104 (by decide +kernel) (by decide +kernel)) tyX1_ok nmX1 rfl rfl (by decide +kernel) rfl rfl (Nat.le_of_ble_eq_true rfl) dX1_init_9 (fun H locs wd => ?_)
  obtain ⟨h9, eh10⟩ : ∃ x, x = mh_up h3 o (.inr (1, [.ref q1, .int 0])) := ⟨_, rfl⟩
  have wd : mh_W D ks L (mh_A L0 s.heap.size) s.heap h9 H locs := by rw [eh10]; exact wd
  have R11 : mh_Rg h o h9 [q1] := by rw [eh10]; exact R5.set
  have ob12 : h9 o = some (.inr (1, [.ref q1, .int 0])) := by rw [eh10]; exact mh_up_eq _ _ _
  have f13 : h9 q1 = some (mh_Ni 12) := by rw [eh10, mh_up_ne n6]; exact f8
  refine lv_aload_n hx hb dX1_init_12 rfl (lv_at hl 0 rfl) ?_
  refine lv_iconst (v := 0) hx hb dX1_init_13 (by decide) ?_
  refine mh_putN (k := 1) cx wd ob12 (Nat.le_of_ble_eq_true rfl)  fp_X1_15 dX1_init_14 (fun H locs wd => ?_)
  obtain ⟨h14, eh15⟩ : ∃ x, x = mh_up h9 o (.inr (1, [.ref q1, .int 0])) := ⟨_, rfl⟩
  have wd : mh_W D ks L (mh_A L0 s.heap.size) s.heap h14 H locs := by rw [eh15]; exact wd
  have R16 : mh_Rg h o h14 [q1] := by rw [eh15]; exact R11.set
  have ob17 : h14 o = some (.inr (1, [.ref q1, .int 0])) := by rw [eh15]; exact mh_up_eq _ _ _
  have f18 : h14 q1 = some (mh_Ni 12) := by rw [eh15, mh_up_ne n6]; exact f13
  exact mh_cret cx wd hr ⟨q1, R16, ob17, f18⟩ dX1_init_17 ⟨Nat.le_of_ble_eq_true rfl, Nat.le_of_ble_eq_true rfl⟩
def mh_qX0 (h : mh_H) (o : Nat) (h' : mh_H) : Prop := ∃ b0, mh_Rg h o h' [b0] ∧ h' o = some (.inr (0, [.ref b0, .int 1])) ∧ h' b0 = some (mh_Ni 300)
set_option maxRecDepth 100000 in
set_option maxHeartbeats 4000000 in
theorem c_X0_init {l : Launch} {L0 : List Nat} {h : mh_H} {o : Nat} (ho : h o = some (.inr (0, [.null, .int 0]))) : mh_Mc l yX0_init (Cond.code yX0_init cX0_init 1 none :: mh_TB) (mh_rn 1 1 300) o L0 h (mh_qX0 h o) 1 300 := by
  refine mh_ofC (by decide) rfl (Nat.le_of_ble_eq_true rfl) (fun p e s m below meth c D ks ls hr hin ao cx wd hl => ?_)
  have hx := cx.1.1
  have hb := cx.1.2.1
  have R0 : mh_Rg h o h [] := mh_Rg.nil (by rw [ho]; exact fun z => by cases z)
  refine lv_aload_n hx hb dX0_init_0 rfl (lv_at hl 0 rfl) ?_
  refine mh_obj cx (mh_in 156 (by decide +kernel) (by decide +kernel)) wo_inst wo_code hl.1 dX0_init_1 ⟨Nat.le_of_ble_eq_true rfl, Nat.le_of_ble_eq_true rfl⟩ ?_
  refine lv_aload_n hx hb dX0_init_4 rfl (lv_at hl 0 rfl) ?_
  refine lv_sipush (v := 300) hx hb dX0_init_5 (by decide) ?_
  refine mh_nwi (N' := 300) cx wd wo_int (by decide) rfl (by decide) (Nat.le_of_ble_eq_true rfl) (Nat.le_of_ble_eq_true rfl) dX0_init_8 (fun q1 L H e2 wd => ?_)
  obtain ⟨h3, eh4⟩ : ∃ x, x = mh_up h q1 (mh_Ni 300) := ⟨_, rfl⟩
  rw [← eh4] at wd
  have R5 : mh_Rg h o h3 ([q1]) := by rw [eh4]; exact R0.add e2
  have n6 : q1 ≠ o := fun z => by rw [z, ho] at e2; cases e2
  have ob7 : h3 o = some (.inr (0, [.null, .int 0])) := by rw [eh4, mh_up_ne (fun z => n6 z.symm)]; exact ho
  have f8 : h3 q1 = some (mh_Ni 300) := by rw [eh4]; exact mh_up_eq _ _ _
  refine mh_putF cx wd hin (ci := 0) (k := 0) (C := RX0) (T := TX0) (N := 2) (ty0 := tyX0) (ty := .array .int) ob7 rfl (by decide) uw_X0 (mh_in 157 (by decide +kernel) (by decide +kernel)) tyX0_ok nmX0 rfl rfl (by decide +kernel) rfl rfl (Nat.le_of_ble_eq_true rfl) dX0_init_10 (fun H locs wd => ?_)
  obtain ⟨h9, eh10⟩ : ∃ x, x = mh_up h3 o (.inr (0, [.ref q1, .int 0])) := ⟨_, rfl⟩
  have wd : mh_W D ks L (mh_A L0 s.heap.size) s.heap h9 H locs := by rw [eh10]; exact wd
  have R11 : mh_Rg h o h9 [q1] := by rw [eh10]; exact R5.set
  have ob12 : h9 o = some (.inr (0, [.ref q1, .int 0])) := by rw [eh10]; exact mh_up_eq _ _ _
  have f13 : h9 q1 = some (mh_Ni 300) := by rw [eh10, mh_up_ne n6]; exact f8
  refine lv_aload_n hx hb dX0_init_13 rfl (lv_at hl 0 rfl) ?_
  refine lv_iconst (v := 1) hx hb dX0_init_14 (by decide) ?_
  refine mh_putN (k := 1) cx wd ob12 (Nat.le_of_ble_eq_true rfl)  fp_X0_15 dX0_init_15 (fun H locs wd => ?_)
  obtain ⟨h14, eh15⟩ : ∃ x, x = mh_up h9 o (.inr (0, [.ref q1, .int 1])) := ⟨_, rfl⟩
  have wd : mh_W D ks L (mh_A L0 s.heap.size) s.heap h14 H locs := by rw [eh15]; exact wd
  have R16 : mh_Rg h o h14 [q1] := by rw [eh15]; exact R11.set
  have ob17 : h14 o = some (.inr (0, [.ref q1, .int 1])) := by rw [eh15]; exact mh_up_eq _ _ _
  have f18 : h14 q1 = some (mh_Ni 300) := by rw [eh15, mh_up_ne n6]; exact f13
  exact mh_cret cx wd hr ⟨q1, R16, ob17, f18⟩ dX0_init_18 ⟨Nat.le_of_ble_eq_true rfl, Nat.le_of_ble_eq_true rfl⟩
def mh_qX7 (h : mh_H) (o : Nat) (h' : mh_H) : Prop := ∃ b0 b1 b2, mh_Rg h o h' [b0, b1, b2] ∧ h' o = some (.inr (7, [.ref b0, .ref b2])) ∧ h' b0 = some (.inr (1, [.ref b1, .int 0])) ∧ h' b1 = some (mh_Ni 12) ∧ h' b2 = some (mh_Ni 12)
set_option maxRecDepth 100000 in
set_option maxHeartbeats 4000000 in
theorem c_X7_init {l : Launch} {L0 : List Nat} {h : mh_H} {o : Nat} (ho : h o = some (.inr (7, [.null, .null]))) : mh_Mc l yX7_init (Cond.code yX7_init cX7_init 1 none :: mh_TB) (mh_rn 2 3 26) o L0 h (mh_qX7 h o) 3 26 := by
  refine mh_ofC (by decide) rfl (Nat.le_of_ble_eq_true rfl) (fun p e s m below meth c D ks ls hr hin ao cx wd hl => ?_)
  have hx := cx.1.1
  have hb := cx.1.2.1
  have R0 : mh_Rg h o h [] := mh_Rg.nil (by rw [ho]; exact fun z => by cases z)
  refine lv_aload_n hx hb dX7_init_0 rfl (lv_at hl 0 rfl) ?_
  refine mh_obj cx (mh_in 116 (by decide +kernel) (by decide +kernel)) wo_inst wo_code hl.1 dX7_init_1 ⟨Nat.le_of_ble_eq_true rfl, Nat.le_of_ble_eq_true rfl⟩ ?_
  refine lv_aload_n hx hb dX7_init_4 rfl (lv_at hl 0 rfl) ?_
  refine mh_new cx wd (C := RX1) (T := TX1) (N := 2) (ci := 1) tyX1 [.null, .int 0] rfl uw_X1 tyX1_ok (mh_in 117 (by decide +kernel) (by decide +kernel)) (mh_in 99 (by decide +kernel) (by decide +kernel)) (mh_in 63 (by decide +kernel) (by decide +kernel)) (fun j hj => by rcases (show j = 0 ∨ j = 1 by omega) with rfl | rfl <;> rfl) (Nat.le_of_ble_eq_true rfl) (Nat.le_of_ble_eq_true rfl) dX7_init_5 (fun q1 L H e2 wd => ?_)
  obtain ⟨h3, eh4⟩ : ∃ x, x = mh_up h q1 (.inr (1, [.null, .int 0])) := ⟨_, rfl⟩
  rw [← eh4] at wd
  have R5 : mh_Rg h o h3 ([q1]) := by rw [eh4]; exact R0.add e2
  have n6 : q1 ≠ o := fun z => by rw [z, ho] at e2; cases e2
  have ob7 : h3 o = some (.inr (7, [.null, .null])) := by rw [eh4, mh_up_ne (fun z => n6 z.symm)]; exact ho
  have f8 : h3 q1 = some (.inr (1, [.null, .int 0])) := by rw [eh4]; exact mh_up_eq _ _ _
  refine lv_dup hx hb dX7_init_8 rfl ?_
  refine mh_callC (host := "MintHouse") cx ao wd yw_X1_init rfl (mh_nin 118 (by decide +kernel) (by decide +kernel)) (mh_in 101 (by decide +kernel) (by decide +kernel)) hl.1 (Nat.le_of_ble_eq_true rfl) dX7_init_9 ⟨Nat.le_of_ble_eq_true rfl, Nat.le_of_ble_eq_true rfl⟩ ⟨Nat.le_of_ble_eq_true rfl, Nat.le_of_ble_eq_true rfl⟩ (c_X1_inq f8) (fun L h9 H locs hp10 wd => ?_)
  obtain ⟨a12, S11, f13, f14⟩ := hp10
  have R15 := R5.call (q := q1) (by simp) S11
  have ob16 : h9 o = some (.inr (7, [.null, .null])) := (S11.kept (fun z => n6 z.symm) (by rw [ob7]; exact fun z => by cases z)).trans ob7
  have n17 : a12 ≠ o := fun z => by have w := (S11.2.1 a12 (by simp)).1; rw [z, ob7] at w; cases w
  refine mh_putF cx wd hin (ci := 7) (k := 0) (C := RX7) (T := TX7) (N := 2) (ty0 := tyX7) (ty := .object RX1) ob16 rfl (by decide) uw_X7 (mh_in 119 (by decide +kernel) (by decide +kernel)) tyX7_ok nmX7 rfl rfl (by decide +kernel) rfl rfl (Nat.le_of_ble_eq_true rfl) dX7_init_12 (fun H locs wd => ?_)
  obtain ⟨h18, eh19⟩ : ∃ x, x = mh_up h9 o (.inr (7, [.ref q1, .null])) := ⟨_, rfl⟩
  have wd : mh_W D ks L (mh_A L0 s.heap.size) s.heap h18 H locs := by rw [eh19]; exact wd
  have R20 : mh_Rg h o h18 [q1, a12] := by rw [eh19]; exact R15.set
  have ob21 : h18 o = some (.inr (7, [.ref q1, .null])) := by rw [eh19]; exact mh_up_eq _ _ _
  have f22 : h18 q1 = some (.inr (1, [.ref a12, .int 0])) := by rw [eh19, mh_up_ne n6]; exact f13
  have f23 : h18 a12 = some (mh_Ni 12) := by rw [eh19, mh_up_ne n17]; exact f14
  refine lv_aload_n hx hb dX7_init_15 rfl (lv_at hl 0 rfl) ?_
  refine lv_bipush (v := 12) hx hb dX7_init_16 (by decide) ?_
  refine mh_nwi (N' := 12) cx wd wo_int (by decide) rfl (by decide) (Nat.le_of_ble_eq_true rfl) (Nat.le_of_ble_eq_true rfl) dX7_init_18 (fun q24 L H e25 wd => ?_)
  obtain ⟨h26, eh27⟩ : ∃ x, x = mh_up h18 q24 (mh_Ni 12) := ⟨_, rfl⟩
  rw [← eh27] at wd
  have R28 : mh_Rg h o h26 ([q1, a12, q24]) := by rw [eh27]; exact R20.add e25
  have n29 : q24 ≠ o := fun z => by rw [z, ob21] at e25; cases e25
  have ob30 : h26 o = some (.inr (7, [.ref q1, .null])) := by rw [eh27, mh_up_ne (fun z => n29 z.symm)]; exact ob21
  have n_q1_q24 : q1 ≠ q24 := fun z => by rw [z, e25] at f22; cases f22
  have f31 : h26 q1 = some (.inr (1, [.ref a12, .int 0])) := by rw [eh27, mh_up_ne n_q1_q24]; exact f22
  have n_a12_q24 : a12 ≠ q24 := fun z => by rw [z, e25] at f23; cases f23
  have f32 : h26 a12 = some (mh_Ni 12) := by rw [eh27, mh_up_ne n_a12_q24]; exact f23
  have f33 : h26 q24 = some (mh_Ni 12) := by rw [eh27]; exact mh_up_eq _ _ _
  refine mh_putF cx wd hin (ci := 7) (k := 1) (C := RX7) (T := TX7) (N := 2) (ty0 := tyX7) (ty := .array .int) ob30 rfl (by decide) uw_X7 (mh_in 120 (by decide +kernel) (by decide +kernel)) tyX7_ok nmX7 rfl rfl (by decide +kernel) rfl rfl (Nat.le_of_ble_eq_true rfl) dX7_init_20 (fun H locs wd => ?_)
  obtain ⟨h34, eh35⟩ : ∃ x, x = mh_up h26 o (.inr (7, [.ref q1, .ref q24])) := ⟨_, rfl⟩
  have wd : mh_W D ks L (mh_A L0 s.heap.size) s.heap h34 H locs := by rw [eh35]; exact wd
  have R36 : mh_Rg h o h34 [q1, a12, q24] := by rw [eh35]; exact R28.set
  have ob37 : h34 o = some (.inr (7, [.ref q1, .ref q24])) := by rw [eh35]; exact mh_up_eq _ _ _
  have f38 : h34 q1 = some (.inr (1, [.ref a12, .int 0])) := by rw [eh35, mh_up_ne n6]; exact f31
  have f39 : h34 a12 = some (mh_Ni 12) := by rw [eh35, mh_up_ne n17]; exact f32
  have f40 : h34 q24 = some (mh_Ni 12) := by rw [eh35, mh_up_ne n29]; exact f33
  exact mh_cret cx wd hr ⟨q1, a12, q24, R36, ob37, f38, f39, f40⟩ dX7_init_23 ⟨Nat.le_of_ble_eq_true rfl, Nat.le_of_ble_eq_true rfl⟩
