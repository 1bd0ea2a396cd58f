section MhCj
variable {p : Program} {l : Launch} {e : Env} {R : Room} {s : State} {m : MethodId} {args : Array Value} {below : List Frame} {meth : Method} {c : Code} {H : Heap} {locs : List Loc} {cells slots : Nat} {Q : State → Prop}
variable {cc : ByteArray} {pc nL : Nat} {ls : Array Slot} {rest : List Value} {D : va_G} {ks : Nat → ClassId} {L : List Nat} {A : Nat → Prop} {own : String} {h : mh_H}
theorem mh_putB (cx : mh_C p m c cc nL s args own meth D ks A) (wd : mh_W D ks L A s.heap h H locs) {a ci k index : Nat} {fs : List Value} {v : Int32} (ha : h a = some (.inr (ci, fs))) (hk : k < fs.length) (hv : v = 0 ∨ v = 1) (K : mh_FP own index ci k .boolean) (hdg : decode cc pc = .ok (.putfield index, 3))
    (kk : ∀ H locs, mh_W D ks L A s.heap (mh_up h a (.inr (ci, fs.set k (.int v)))) H locs → W p l e R s m args below meth c H locs cells slots Q (F0 m (pc + 3) ls rest)) : W p l e R s m args below meth c H locs cells slots Q (F0 m pc ls (.int v :: .ref a :: rest)) := by
  refine mh_putZ (f := some) (Rz := mh_up h a (.inr (ci, fs.set k (.int v)))) cx wd K hdg (by unfold mh_pZ; rw [if_pos hv, mh_pI_eq ha hk]; rfl) (fun h' H locs wd hX => ?_)
  cases hX
  exact kk H locs wd
end MhCj
theorem wo_boolean : Cond.arrayClass .boolean ∈ mh_TB := mh_in 210 (by decide +kernel) (by decide +kernel)
theorem wo_long : Cond.arrayClass .long ∈ mh_TB := mh_in 233 (by decide +kernel) (by decide +kernel)
theorem yw_X0_init : mh_Yw yX0_init cX0_init 1 none 0 := ⟨(mh_in 66 (by decide +kernel) (by decide +kernel)), (mh_in 155 (by decide +kernel) (by decide +kernel)), by decide +kernel, by decide +kernel, by decide +kernel⟩
theorem yw_X1_init : mh_Yw yX1_init cX1_init 1 none 0 := ⟨(mh_in 63 (by decide +kernel) (by decide +kernel)), (mh_in 102 (by decide +kernel) (by decide +kernel)), by decide +kernel, by decide +kernel, by decide +kernel⟩
theorem yw_X7_init : mh_Yw yX7_init cX7_init 1 none 0 := ⟨(mh_in 64 (by decide +kernel) (by decide +kernel)), (mh_in 115 (by decide +kernel) (by decide +kernel)), by decide +kernel, by decide +kernel, by decide +kernel⟩
-- Coins, by program
set_option maxRecDepth 100000 in
set_option maxHeartbeats 4000000 in
theorem c_X1_inq {l : Launch} {L0 : List Nat} {h : mh_H} {o : Nat} (ho : h o = some (.inr (1, [.null, .int 0]))) : mh_Mc l yX1_init (Cond.code yX1_init cX1_init 1 none :: mh_TB) (mh_rn 1 1 12) o L0 h (mh_qX1 h o) 1 12 := by
  refine mh_ofC (by decide) rfl (Nat.le_of_ble_eq_true rfl) (fun p e s m below meth c D ks ls hr hin ao cx wd hl => ?_)
  have hx := cx.1.1
  have hb := cx.1.2.1
  have R0 : mh_Rg h o h [] := mh_Rg.nil (by rw [ho]; exact fun z => by cases z)
  refine lv_aload_n hx hb dX1_init_0 rfl (lv_at hl 0 rfl) ?_
  refine mh_obj cx (mh_in 103 (by decide +kernel) (by decide +kernel)) wo_inst wo_code hl.1 dX1_init_1 ⟨Nat.le_of_ble_eq_true rfl, Nat.le_of_ble_eq_true rfl⟩ ?_
  refine lv_aload_n hx hb dX1_init_4 rfl (lv_at hl 0 rfl) ?_
  refine lv_bipush (v := 12) hx hb dX1_init_5 (by decide) ?_
  refine mh_nwi (N' := 12) cx wd wo_int (by decide) rfl (by decide) (Nat.le_of_ble_eq_true rfl) (Nat.le_of_ble_eq_true rfl) dX1_init_7 (fun q1 L H e2 wd => ?_)
  obtain ⟨h3, eh4⟩ : ∃ x, x = mh_up h q1 (mh_Ni 12) := ⟨_, rfl⟩
  rw [← eh4] at wd
  have R5 : mh_Rg h o h3 ([q1]) := by rw [eh4]; exact R0.add e2
  have n6 : q1 ≠ o := fun z => by rw [z, ho] at e2; cases e2
  have ob7 : h3 o = some (.inr (1, [.null, .int 0])) := by rw [eh4, mh_up_ne (fun z => n6 z.symm)]; exact ho
  have f8 : h3 q1 = some (mh_Ni 12) := by rw [eh4]; exact mh_up_eq _ _ _
  refine mh_putF cx wd hin (ci := 1) (k := 0) (C := RX1) (T := TX1) (N := 2) (ty0 := tyX1) (ty := (.array .int)) ob7 rfl (by decide) uw_X1 (mh_in 104 (by decide +kernel) (by decide +kernel)) tyX1_ok nmX1 rfl rfl (by decide +kernel) rfl rfl (Nat.le_of_ble_eq_true rfl) dX1_init_9 (fun H locs wd => ?_)
  obtain ⟨h9, eh10⟩ : ∃ x, x = mh_up h3 o (.inr (1, [.ref q1, .int 0])) := ⟨_, rfl⟩
  have wd : mh_W D ks L (mh_A L0 s.heap.size) s.heap h9 H locs := by rw [eh10]; exact wd
  have R11 : mh_Rg h o h9 [q1] := by rw [eh10]; exact R5.set
  have ob12 : h9 o = some (.inr (1, [.ref q1, .int 0])) := by rw [eh10]; exact mh_up_eq _ _ _
  have f13 : h9 q1 = some (mh_Ni 12) := by rw [eh10, mh_up_ne n6]; exact f8
  refine lv_aload_n hx hb dX1_init_12 rfl (lv_at hl 0 rfl) ?_
  refine lv_iconst (v := 0) hx hb dX1_init_13 (by decide) ?_
  refine mh_putN (k := 1) cx wd ob12 (Nat.le_of_ble_eq_true rfl)  fp_X1_15 dX1_init_14 (fun H locs wd => ?_)
  obtain ⟨h14, eh15⟩ : ∃ x, x = mh_up h9 o (.inr (1, [.ref q1, .int 0])) := ⟨_, rfl⟩
  have wd : mh_W D ks L (mh_A L0 s.heap.size) s.heap h14 H locs := by rw [eh15]; exact wd
  have R16 : mh_Rg h o h14 [q1] := by rw [eh15]; exact R11.set
  have ob17 : h14 o = some (.inr (1, [.ref q1, .int 0])) := by rw [eh15]; exact mh_up_eq _ _ _
  have f18 : h14 q1 = some (mh_Ni 12) := by rw [eh15, mh_up_ne n6]; exact f13
  exact mh_cret cx wd hr ⟨q1, R16, ob17, f18⟩ dX1_init_17 ⟨Nat.le_of_ble_eq_true rfl, Nat.le_of_ble_eq_true rfl⟩
def mh_qX0 (h : mh_H) (o : Nat) (h' : mh_H) : Prop := ∃ b0, mh_Rg h o h' [b0] ∧ h' o = some (.inr (0, [.ref b0, .int 1])) ∧ h' b0 = some (mh_Ni 300)
set_option maxRecDepth 100000 in
set_option maxHeartbeats 4000000 in
theorem c_X0_init {l : Launch} {L0 : List Nat} {h : mh_H} {o : Nat} (ho : h o = some (.inr (0, [.null, .int 0]))) : mh_Mc l yX0_init (Cond.code yX0_init cX0_init 1 none :: mh_TB) (mh_rn 1 1 300) o L0 h (mh_qX0 h o) 1 300 := by
  refine mh_ofC (by decide) rfl (Nat.le_of_ble_eq_true rfl) (fun p e s m below meth c D ks ls hr hin ao cx wd hl => ?_)
  have hx := cx.1.1
  have hb := cx.1.2.1
  have R0 : mh_Rg h o h [] := mh_Rg.nil (by rw [ho]; exact fun z => by cases z)
  refine lv_aload_n hx hb dX0_init_0 rfl (lv_at hl 0 rfl) ?_
  refine mh_obj cx (mh_in 156 (by decide +kernel) (by decide +kernel)) wo_inst wo_code hl.1 dX0_init_1 ⟨Nat.le_of_ble_eq_true rfl, Nat.le_of_ble_eq_true rfl⟩ ?_
  refine lv_aload_n hx hb dX0_init_4 rfl (lv_at hl 0 rfl) ?_
  refine lv_sipush (v := 300) hx hb dX0_init_5 (by decide) ?_
  refine mh_nwi (N' := 300) cx wd wo_int (by decide) rfl (by decide) (Nat.le_of_ble_eq_true rfl) (Nat.le_of_ble_eq_true rfl) dX0_init_8 (fun q1 L H e2 wd => ?_)
  obtain ⟨h3, eh4⟩ : ∃ x, x = mh_up h q1 (mh_Ni 300) := ⟨_, rfl⟩
  rw [← eh4] at wd
  have R5 : mh_Rg h o h3 ([q1]) := by rw [eh4]; exact R0.add e2
  have n6 : q1 ≠ o := fun z => by rw [z, ho] at e2; cases e2
  have ob7 : h3 o = some (.inr (0, [.null, .int 0])) := by rw [eh4, mh_up_ne (fun z => n6 z.symm)]; exact ho
  have f8 : h3 q1 = some (mh_Ni 300) := by rw [eh4]; exact mh_up_eq _ _ _
  refine mh_putF cx wd hin (ci := 0) (k := 0) (C := RX0) (T := TX0) (N := 2) (ty0 := tyX0) (ty := (.array .int)) ob7 rfl (by decide) uw_X0 (mh_in 157 (by decide +kernel) (by decide +kernel)) tyX0_ok nmX0 rfl rfl (by decide +kernel) rfl rfl (Nat.le_of_ble_eq_true rfl) dX0_init_10 (fun H locs wd => ?_)
  obtain ⟨h9, eh10⟩ : ∃ x, x = mh_up h3 o (.inr (0, [.ref q1, .int 0])) := ⟨_, rfl⟩
  have wd : mh_W D ks L (mh_A L0 s.heap.size) s.heap h9 H locs := by rw [eh10]; exact wd
  have R11 : mh_Rg h o h9 [q1] := by rw [eh10]; exact R5.set
  have ob12 : h9 o = some (.inr (0, [.ref q1, .int 0])) := by rw [eh10]; exact mh_up_eq _ _ _
  have f13 : h9 q1 = some (mh_Ni 300) := by rw [eh10, mh_up_ne n6]; exact f8
  refine lv_aload_n hx hb dX0_init_13 rfl (lv_at hl 0 rfl) ?_
  refine lv_iconst (v := 1) hx hb dX0_init_14 (by decide) ?_
  refine mh_putN (k := 1) cx wd ob12 (Nat.le_of_ble_eq_true rfl)  fp_X0_15 dX0_init_15 (fun H locs wd => ?_)
  obtain ⟨h14, eh15⟩ : ∃ x, x = mh_up h9 o (.inr (0, [.ref q1, .int 1])) := ⟨_, rfl⟩
  have wd : mh_W D ks L (mh_A L0 s.heap.size) s.heap h14 H locs := by rw [eh15]; exact wd
  have R16 : mh_Rg h o h14 [q1] := by rw [eh15]; exact R11.set
  have ob17 : h14 o = some (.inr (0, [.ref q1, .int 1])) := by rw [eh15]; exact mh_up_eq _ _ _
  have f18 : h14 q1 = some (mh_Ni 300) := by rw [eh15, mh_up_ne n6]; exact f13
  exact mh_cret cx wd hr ⟨q1, R16, ob17, f18⟩ dX0_init_18 ⟨Nat.le_of_ble_eq_true rfl, Nat.le_of_ble_eq_true rfl⟩
def mh_qX7 (h : mh_H) (o : Nat) (h' : mh_H) : Prop := ∃ b0 b1 b2, mh_Rg h o h' [b0, b1, b2] ∧ h' o = some (.inr (7, [.ref b0, .ref b2])) ∧ h' b0 = some (.inr (1, [.ref b1, .int 0])) ∧ h' b1 = some (mh_Ni 12) ∧ h' b2 = some (mh_Ni 12)
set_option maxRecDepth 100000 in
set_option maxHeartbeats 4000000 in
theorem c_X7_init {l : Launch} {L0 : List Nat} {h : mh_H} {o : Nat} (ho : h o = some (.inr (7, [.null, .null]))) : mh_Mc l yX7_init (Cond.code yX7_init cX7_init 1 none :: mh_TB) (mh_rn 2 3 26) o L0 h (mh_qX7 h o) 3 26 := by
  refine mh_ofC (by decide) rfl (Nat.le_of_ble_eq_true rfl) (fun p e s m below meth c D ks ls hr hin ao cx wd hl => ?_)
  have hx := cx.1.1
  have hb := cx.1.2.1
  have R0 : mh_Rg h o h [] := mh_Rg.nil (by rw [ho]; exact fun z => by cases z)
  refine lv_aload_n hx hb dX7_init_0 rfl (lv_at hl 0 rfl) ?_
  refine mh_obj cx (mh_in 116 (by decide +kernel) (by decide +kernel)) wo_inst wo_code hl.1 dX7_init_1 ⟨Nat.le_of_ble_eq_true rfl, Nat.le_of_ble_eq_true rfl⟩ ?_
  refine lv_aload_n hx hb dX7_init_4 rfl (lv_at hl 0 rfl) ?_
  refine mh_new cx wd (C := RX1) (T := TX1) (N := 2) (ci := 1) tyX1 [.null, .int 0] rfl uw_X1 tyX1_ok (mh_in 117 (by decide +kernel) (by decide +kernel)) (mh_in 99 (by decide +kernel) (by decide +kernel)) (mh_in 63 (by decide +kernel) (by decide +kernel)) (fun j hj => by rcases (show j = 0 ∨ j = 1 by omega) with rfl | rfl <;> rfl) (Nat.le_of_ble_eq_true rfl) (Nat.le_of_ble_eq_true rfl) dX7_init_5 (fun q1 L H e2 wd => ?_)
  obtain ⟨h3, eh4⟩ : ∃ x, x = mh_up h q1 (.inr (1, [.null, .int 0])) := ⟨_, rfl⟩
  rw [← eh4] at wd
  have R5 : mh_Rg h o h3 ([q1]) := by rw [eh4]; exact R0.add e2
  have n6 : q1 ≠ o := fun z => by rw [z, ho] at e2; cases e2
  have ob7 : h3 o = some (.inr (7, [.null, .null])) := by rw [eh4, mh_up_ne (fun z => n6 z.symm)]; exact ho
  have f8 : h3 q1 = some (.inr (1, [.null, .int 0])) := by rw [eh4]; exact mh_up_eq _ _ _
  refine lv_dup hx hb dX7_init_8 rfl ?_
  refine mh_callC (host := "MintHouse") cx ao wd yw_X1_init rfl (mh_nin 118 (by decide +kernel) (by decide +kernel)) (mh_in 101 (by decide +kernel) (by decide +kernel)) hl.1 (Nat.le_of_ble_eq_true rfl) dX7_init_9 ⟨Nat.le_of_ble_eq_true rfl, Nat.le_of_ble_eq_true rfl⟩ ⟨Nat.le_of_ble_eq_true rfl, Nat.le_of_ble_eq_true rfl⟩ (c_X1_inq f8) (fun L h9 H locs hp10 wd => ?_)
  obtain ⟨a12, S11, f13, f14⟩ := hp10
  have R15 := R5.call (q := q1) (by simp) S11
  have ob16 : h9 o = some (.inr (7, [.null, .null])) := (S11.kept (fun z => n6 z.symm) (by rw [ob7]; exact fun z => by cases z)).trans ob7
  have n17 : a12 ≠ o := fun z => by have w := (S11.2.1 a12 (by simp)).1; rw [z, ob7] at w; cases w
  refine mh_putF cx wd hin (ci := 7) (k := 0) (C := RX7) (T := TX7) (N := 2) (ty0 := tyX7) (ty := (.object RX1)) ob16 rfl (by decide) uw_X7 (mh_in 119 (by decide +kernel) (by decide +kernel)) tyX7_ok nmX7 rfl rfl (by decide +kernel) rfl rfl (Nat.le_of_ble_eq_true rfl) dX7_init_12 (fun H locs wd => ?_)
  obtain ⟨h18, eh19⟩ : ∃ x, x = mh_up h9 o (.inr (7, [.ref q1, .null])) := ⟨_, rfl⟩
  have wd : mh_W D ks L (mh_A L0 s.heap.size) s.heap h18 H locs := by rw [eh19]; exact wd
  have R20 : mh_Rg h o h18 [q1, a12] := by rw [eh19]; exact R15.set
  have ob21 : h18 o = some (.inr (7, [.ref q1, .null])) := by rw [eh19]; exact mh_up_eq _ _ _
  have f22 : h18 q1 = some (.inr (1, [.ref a12, .int 0])) := by rw [eh19, mh_up_ne n6]; exact f13
  have f23 : h18 a12 = some (mh_Ni 12) := by rw [eh19, mh_up_ne n17]; exact f14
  refine lv_aload_n hx hb dX7_init_15 rfl (lv_at hl 0 rfl) ?_
  refine lv_bipush (v := 12) hx hb dX7_init_16 (by decide) ?_
  refine mh_nwi (N' := 12) cx wd wo_int (by decide) rfl (by decide) (Nat.le_of_ble_eq_true rfl) (Nat.le_of_ble_eq_true rfl) dX7_init_18 (fun q24 L H e25 wd => ?_)
  obtain ⟨h26, eh27⟩ : ∃ x, x = mh_up h18 q24 (mh_Ni 12) := ⟨_, rfl⟩
  rw [← eh27] at wd
  have R28 : mh_Rg h o h26 ([q1, a12, q24]) := by rw [eh27]; exact R20.add e25
  have n29 : q24 ≠ o := fun z => by rw [z, ob21] at e25; cases e25
  have ob30 : h26 o = some (.inr (7, [.ref q1, .null])) := by rw [eh27, mh_up_ne (fun z => n29 z.symm)]; exact ob21
  have n_q1_q24 : q1 ≠ q24 := fun z => by rw [z, e25] at f22; cases f22
  have f31 : h26 q1 = some (.inr (1, [.ref a12, .int 0])) := by rw [eh27, mh_up_ne n_q1_q24]; exact f22
  have n_a12_q24 : a12 ≠ q24 := fun z => by rw [z, e25] at f23; cases f23
  have f32 : h26 a12 = some (mh_Ni 12) := by rw [eh27, mh_up_ne n_a12_q24]; exact f23
  have f33 : h26 q24 = some (mh_Ni 12) := by rw [eh27]; exact mh_up_eq _ _ _
  refine mh_putF cx wd hin (ci := 7) (k := 1) (C := RX7) (T := TX7) (N := 2) (ty0 := tyX7) (ty := (.array .int)) ob30 rfl (by decide) uw_X7 (mh_in 120 (by decide +kernel) (by decide +kernel)) tyX7_ok nmX7 rfl rfl (by decide +kernel) rfl rfl (Nat.le_of_ble_eq_true rfl) dX7_init_20 (fun H locs wd => ?_)
  obtain ⟨h34, eh35⟩ : ∃ x, x = mh_up h26 o (.inr (7, [.ref q1, .ref q24])) := ⟨_, rfl⟩
  have wd : mh_W D ks L (mh_A L0 s.heap.size) s.heap h34 H locs := by rw [eh35]; exact wd
  have R36 : mh_Rg h o h34 [q1, a12, q24] := by rw [eh35]; exact R28.set
  have ob37 : h34 o = some (.inr (7, [.ref q1, .ref q24])) := by rw [eh35]; exact mh_up_eq _ _ _
  have f38 : h34 q1 = some (.inr (1, [.ref a12, .int 0])) := by rw [eh35, mh_up_ne n6]; exact f31
  have f39 : h34 a12 = some (mh_Ni 12) := by rw [eh35, mh_up_ne n17]; exact f32
  have f40 : h34 q24 = some (mh_Ni 12) := by rw [eh35, mh_up_ne n29]; exact f33
  exact mh_cret cx wd hr ⟨q1, a12, q24, R36, ob37, f38, f39, f40⟩ dX7_init_23 ⟨Nat.le_of_ble_eq_true rfl, Nat.le_of_ble_eq_true rfl⟩
def mh_qX4 (h : mh_H) (o : Nat) (h' : mh_H) : Prop := ∃ b0 b1, mh_Rg h o h' [b0, b1] ∧ h' o = some (.inr (4, [.ref b0])) ∧ h' b0 = some (.inr (0, [.ref b1, .int 1])) ∧ h' b1 = some (mh_Ni 300)
set_option maxRecDepth 100000 in
set_option maxHeartbeats 4000000 in
theorem c_X4_init {l : Launch} {L0 : List Nat} {h : mh_H} {o : Nat} (ho : h o = some (.inr (4, [.null]))) : mh_Mc l yX4_init (Cond.code yX4_init cX4_init 1 none :: mh_TB) (mh_rn 2 2 302) o L0 h (mh_qX4 h o) 2 302 := by
  refine mh_ofC (by decide) rfl (Nat.le_of_ble_eq_true rfl) (fun p e s m below meth c D ks ls hr hin ao cx wd hl => ?_)
  have hx := cx.1.1
  have hb := cx.1.2.1
  have R0 : mh_Rg h o h [] := mh_Rg.nil (by rw [ho]; exact fun z => by cases z)
  refine lv_aload_n hx hb dX4_init_0 rfl (lv_at hl 0 rfl) ?_
  refine mh_obj cx (mh_in 185 (by decide +kernel) (by decide +kernel)) wo_inst wo_code hl.1 dX4_init_1 ⟨Nat.le_of_ble_eq_true rfl, Nat.le_of_ble_eq_true rfl⟩ ?_
  refine lv_aload_n hx hb dX4_init_4 rfl (lv_at hl 0 rfl) ?_
  refine mh_new cx wd (C := RX0) (T := TX0) (N := 2) (ci := 0) tyX0 [.null, .int 0] rfl uw_X0 tyX0_ok (mh_in 186 (by decide +kernel) (by decide +kernel)) (mh_in 152 (by decide +kernel) (by decide +kernel)) (mh_in 66 (by decide +kernel) (by decide +kernel)) (fun j hj => by rcases (show j = 0 ∨ j = 1 by omega) with rfl | rfl <;> rfl) (Nat.le_of_ble_eq_true rfl) (Nat.le_of_ble_eq_true rfl) dX4_init_5 (fun q1 L H e2 wd => ?_)
  obtain ⟨h3, eh4⟩ : ∃ x, x = mh_up h q1 (.inr (0, [.null, .int 0])) := ⟨_, rfl⟩
  rw [← eh4] at wd
  have R5 : mh_Rg h o h3 ([q1]) := by rw [eh4]; exact R0.add e2
  have n6 : q1 ≠ o := fun z => by rw [z, ho] at e2; cases e2
  have ob7 : h3 o = some (.inr (4, [.null])) := by rw [eh4, mh_up_ne (fun z => n6 z.symm)]; exact ho
  have f8 : h3 q1 = some (.inr (0, [.null, .int 0])) := by rw [eh4]; exact mh_up_eq _ _ _
  refine lv_dup hx hb dX4_init_8 rfl ?_
  refine mh_callC (host := "MintHouse") cx ao wd yw_X0_init rfl (mh_nin 187 (by decide +kernel) (by decide +kernel)) (mh_in 154 (by decide +kernel) (by decide +kernel)) hl.1 (Nat.le_of_ble_eq_true rfl) dX4_init_9 ⟨Nat.le_of_ble_eq_true rfl, Nat.le_of_ble_eq_true rfl⟩ ⟨Nat.le_of_ble_eq_true rfl, Nat.le_of_ble_eq_true rfl⟩ (c_X0_init f8) (fun L h9 H locs hp10 wd => ?_)
  obtain ⟨a12, S11, f13, f14⟩ := hp10
  have R15 := R5.call (q := q1) (by simp) S11
  have ob16 : h9 o = some (.inr (4, [.null])) := (S11.kept (fun z => n6 z.symm) (by rw [ob7]; exact fun z => by cases z)).trans ob7
  have n17 : a12 ≠ o := fun z => by have w := (S11.2.1 a12 (by simp)).1; rw [z, ob7] at w; cases w
  refine mh_putF cx wd hin (ci := 4) (k := 0) (C := RX4) (T := TX4) (N := 1) (ty0 := tyX4) (ty := (.object RX0)) ob16 rfl (by decide) uw_X4 (mh_in 188 (by decide +kernel) (by decide +kernel)) tyX4_ok nmX4 rfl rfl (by decide +kernel) rfl rfl (Nat.le_of_ble_eq_true rfl) dX4_init_12 (fun H locs wd => ?_)
  obtain ⟨h18, eh19⟩ : ∃ x, x = mh_up h9 o (.inr (4, [.ref q1])) := ⟨_, rfl⟩
  have wd : mh_W D ks L (mh_A L0 s.heap.size) s.heap h18 H locs := by rw [eh19]; exact wd
  have R20 : mh_Rg h o h18 [q1, a12] := by rw [eh19]; exact R15.set
  have ob21 : h18 o = some (.inr (4, [.ref q1])) := by rw [eh19]; exact mh_up_eq _ _ _
  have f22 : h18 q1 = some (.inr (0, [.ref a12, .int 1])) := by rw [eh19, mh_up_ne n6]; exact f13
  have f23 : h18 a12 = some (mh_Ni 300) := by rw [eh19, mh_up_ne n17]; exact f14
  exact mh_cret cx wd hr ⟨q1, a12, R20, ob21, f22, f23⟩ dX4_init_15 ⟨Nat.le_of_ble_eq_true rfl, Nat.le_of_ble_eq_true rfl⟩
def mh_qX5 (h : mh_H) (o : Nat) (h' : mh_H) : Prop := ∃ b0 b1 b2 b3, mh_Rg h o h' [b0, b1, b2, b3] ∧ h' o = some (.inr (5, [.ref b0, .ref b1, .ref b2])) ∧ h' b0 = some (mh_Nz 301) ∧ h' b1 = some (mh_Nz 301) ∧ h' b2 = some (.inr (1, [.ref b3, .int 0])) ∧ h' b3 = some (mh_Ni 12)
set_option maxRecDepth 100000 in
set_option maxHeartbeats 4000000 in
theorem c_X5_init {l : Launch} {L0 : List Nat} {h : mh_H} {o : Nat} (ho : h o = some (.inr (5, [.null, .null, .null]))) : mh_Mc l yX5_init (Cond.code yX5_init cX5_init 1 none :: mh_TB) (mh_rn 2 4 616) o L0 h (mh_qX5 h o) 4 616 := by
  refine mh_ofC (by decide) rfl (Nat.le_of_ble_eq_true rfl) (fun p e s m below meth c D ks ls hr hin ao cx wd hl => ?_)
  have hx := cx.1.1
  have hb := cx.1.2.1
  have R0 : mh_Rg h o h [] := mh_Rg.nil (by rw [ho]; exact fun z => by cases z)
  refine lv_aload_n hx hb dX5_init_0 rfl (lv_at hl 0 rfl) ?_
  refine mh_obj cx (mh_in 197 (by decide +kernel) (by decide +kernel)) wo_inst wo_code hl.1 dX5_init_1 ⟨Nat.le_of_ble_eq_true rfl, Nat.le_of_ble_eq_true rfl⟩ ?_
  refine lv_aload_n hx hb dX5_init_4 rfl (lv_at hl 0 rfl) ?_
  refine lv_sipush (v := 301) hx hb dX5_init_5 (by decide) ?_
  refine mh_nwz (N' := 301) cx wd wo_boolean (by decide) rfl (by decide) (Nat.le_of_ble_eq_true rfl) (Nat.le_of_ble_eq_true rfl) dX5_init_8 (fun q1 L H e2 wd => ?_)
  obtain ⟨h3, eh4⟩ : ∃ x, x = mh_up h q1 (mh_Nz 301) := ⟨_, rfl⟩
  rw [← eh4] at wd
  have R5 : mh_Rg h o h3 ([q1]) := by rw [eh4]; exact R0.add e2
  have n6 : q1 ≠ o := fun z => by rw [z, ho] at e2; cases e2
  have ob7 : h3 o = some (.inr (5, [.null, .null, .null])) := by rw [eh4, mh_up_ne (fun z => n6 z.symm)]; exact ho
  have f8 : h3 q1 = some (mh_Nz 301) := by rw [eh4]; exact mh_up_eq _ _ _
  refine mh_putF cx wd hin (ci := 5) (k := 0) (C := RX5) (T := TX5) (N := 3) (ty0 := tyX5) (ty := (.array .boolean)) ob7 rfl (by decide) uw_X5 (mh_in 200 (by decide +kernel) (by decide +kernel)) tyX5_ok nmX5 rfl rfl (by decide +kernel) rfl rfl (Nat.le_of_ble_eq_true rfl) dX5_init_10 (fun H locs wd => ?_)
  obtain ⟨h9, eh10⟩ : ∃ x, x = mh_up h3 o (.inr (5, [.ref q1, .null, .null])) := ⟨_, rfl⟩
  have wd : mh_W D ks L (mh_A L0 s.heap.size) s.heap h9 H locs := by rw [eh10]; exact wd
  have R11 : mh_Rg h o h9 [q1] := by rw [eh10]; exact R5.set
  have ob12 : h9 o = some (.inr (5, [.ref q1, .null, .null])) := by rw [eh10]; exact mh_up_eq _ _ _
  have f13 : h9 q1 = some (mh_Nz 301) := by rw [eh10, mh_up_ne n6]; exact f8
  refine lv_aload_n hx hb dX5_init_13 rfl (lv_at hl 0 rfl) ?_
  refine lv_sipush (v := 301) hx hb dX5_init_14 (by decide) ?_
  refine mh_nwz (N' := 301) cx wd wo_boolean (by decide) rfl (by decide) (Nat.le_of_ble_eq_true rfl) (Nat.le_of_ble_eq_true rfl) dX5_init_17 (fun q14 L H e15 wd => ?_)
  obtain ⟨h16, eh17⟩ : ∃ x, x = mh_up h9 q14 (mh_Nz 301) := ⟨_, rfl⟩
  rw [← eh17] at wd
  have R18 : mh_Rg h o h16 ([q1, q14]) := by rw [eh17]; exact R11.add e15
  have n19 : q14 ≠ o := fun z => by rw [z, ob12] at e15; cases e15
  have ob20 : h16 o = some (.inr (5, [.ref q1, .null, .null])) := by rw [eh17, mh_up_ne (fun z => n19 z.symm)]; exact ob12
  have n_q1_q14 : q1 ≠ q14 := fun z => by rw [z, e15] at f13; cases f13
  have f21 : h16 q1 = some (mh_Nz 301) := by rw [eh17, mh_up_ne n_q1_q14]; exact f13
  have f22 : h16 q14 = some (mh_Nz 301) := by rw [eh17]; exact mh_up_eq _ _ _
  refine mh_putF cx wd hin (ci := 5) (k := 1) (C := RX5) (T := TX5) (N := 3) (ty0 := tyX5) (ty := (.array .boolean)) ob20 rfl (by decide) uw_X5 (mh_in 201 (by decide +kernel) (by decide +kernel)) tyX5_ok nmX5 rfl rfl (by decide +kernel) rfl rfl (Nat.le_of_ble_eq_true rfl) dX5_init_19 (fun H locs wd => ?_)
  obtain ⟨h23, eh24⟩ : ∃ x, x = mh_up h16 o (.inr (5, [.ref q1, .ref q14, .null])) := ⟨_, rfl⟩
  have wd : mh_W D ks L (mh_A L0 s.heap.size) s.heap h23 H locs := by rw [eh24]; exact wd
  have R25 : mh_Rg h o h23 [q1, q14] := by rw [eh24]; exact R18.set
  have ob26 : h23 o = some (.inr (5, [.ref q1, .ref q14, .null])) := by rw [eh24]; exact mh_up_eq _ _ _
  have f27 : h23 q1 = some (mh_Nz 301) := by rw [eh24, mh_up_ne n6]; exact f21
  have f28 : h23 q14 = some (mh_Nz 301) := by rw [eh24, mh_up_ne n19]; exact f22
  refine lv_aload_n hx hb dX5_init_22 rfl (lv_at hl 0 rfl) ?_
  refine mh_new cx wd (C := RX1) (T := TX1) (N := 2) (ci := 1) tyX1 [.null, .int 0] rfl uw_X1 tyX1_ok (mh_in 198 (by decide +kernel) (by decide +kernel)) (mh_in 99 (by decide +kernel) (by decide +kernel)) (mh_in 63 (by decide +kernel) (by decide +kernel)) (fun j hj => by rcases (show j = 0 ∨ j = 1 by omega) with rfl | rfl <;> rfl) (Nat.le_of_ble_eq_true rfl) (Nat.le_of_ble_eq_true rfl) dX5_init_23 (fun q29 L H e30 wd => ?_)
  obtain ⟨h31, eh32⟩ : ∃ x, x = mh_up h23 q29 (.inr (1, [.null, .int 0])) := ⟨_, rfl⟩
  rw [← eh32] at wd
  have R33 : mh_Rg h o h31 ([q1, q14, q29]) := by rw [eh32]; exact R25.add e30
  have n34 : q29 ≠ o := fun z => by rw [z, ob26] at e30; cases e30
  have ob35 : h31 o = some (.inr (5, [.ref q1, .ref q14, .null])) := by rw [eh32, mh_up_ne (fun z => n34 z.symm)]; exact ob26
  have n_q1_q29 : q1 ≠ q29 := fun z => by rw [z, e30] at f27; cases f27
  have f36 : h31 q1 = some (mh_Nz 301) := by rw [eh32, mh_up_ne n_q1_q29]; exact f27
  have n_q14_q29 : q14 ≠ q29 := fun z => by rw [z, e30] at f28; cases f28
  have f37 : h31 q14 = some (mh_Nz 301) := by rw [eh32, mh_up_ne n_q14_q29]; exact f28
  have f38 : h31 q29 = some (.inr (1, [.null, .int 0])) := by rw [eh32]; exact mh_up_eq _ _ _
  refine lv_dup hx hb dX5_init_26 rfl ?_
  refine mh_callC (host := "MintHouse") cx ao wd yw_X1_init rfl (mh_nin 199 (by decide +kernel) (by decide +kernel)) (mh_in 101 (by decide +kernel) (by decide +kernel)) hl.1 (Nat.le_of_ble_eq_true rfl) dX5_init_27 ⟨Nat.le_of_ble_eq_true rfl, Nat.le_of_ble_eq_true rfl⟩ ⟨Nat.le_of_ble_eq_true rfl, Nat.le_of_ble_eq_true rfl⟩ (c_X1_inq f38) (fun L h39 H locs hp40 wd => ?_)
  obtain ⟨a42, S41, f43, f44⟩ := hp40
  have R45 := R33.call (q := q29) (by simp) S41
  have ob46 : h39 o = some (.inr (5, [.ref q1, .ref q14, .null])) := (S41.kept (fun z => n34 z.symm) (by rw [ob35]; exact fun z => by cases z)).trans ob35
  have f47 : h39 q1 = some (mh_Nz 301) := (S41.kept n_q1_q29 (by rw [f36]; exact fun z => by cases z)).trans f36
  have f48 : h39 q14 = some (mh_Nz 301) := (S41.kept n_q14_q29 (by rw [f37]; exact fun z => by cases z)).trans f37
  have n49 : a42 ≠ o := fun z => by have w := (S41.2.1 a42 (by simp)).1; rw [z, ob35] at w; cases w
  refine mh_putF cx wd hin (ci := 5) (k := 2) (C := RX5) (T := TX5) (N := 3) (ty0 := tyX5) (ty := (.object RX1)) ob46 rfl (by decide) uw_X5 (mh_in 202 (by decide +kernel) (by decide +kernel)) tyX5_ok nmX5 rfl rfl (by decide +kernel) rfl rfl (Nat.le_of_ble_eq_true rfl) dX5_init_30 (fun H locs wd => ?_)
  obtain ⟨h50, eh51⟩ : ∃ x, x = mh_up h39 o (.inr (5, [.ref q1, .ref q14, .ref q29])) := ⟨_, rfl⟩
  have wd : mh_W D ks L (mh_A L0 s.heap.size) s.heap h50 H locs := by rw [eh51]; exact wd
  have R52 : mh_Rg h o h50 [q1, q14, q29, a42] := by rw [eh51]; exact R45.set
  have ob53 : h50 o = some (.inr (5, [.ref q1, .ref q14, .ref q29])) := by rw [eh51]; exact mh_up_eq _ _ _
  have f54 : h50 q1 = some (mh_Nz 301) := by rw [eh51, mh_up_ne n6]; exact f47
  have f55 : h50 q14 = some (mh_Nz 301) := by rw [eh51, mh_up_ne n19]; exact f48
  have f56 : h50 q29 = some (.inr (1, [.ref a42, .int 0])) := by rw [eh51, mh_up_ne n34]; exact f43
  have f57 : h50 a42 = some (mh_Ni 12) := by rw [eh51, mh_up_ne n49]; exact f44
  exact mh_cret cx wd hr ⟨q1, q14, q29, a42, R52, ob53, f54, f55, f56, f57⟩ dX5_init_33 ⟨Nat.le_of_ble_eq_true rfl, Nat.le_of_ble_eq_true rfl⟩
def mh_qX8 (h : mh_H) (o : Nat) (h' : mh_H) : Prop := ∃ b0 b1 b2 b3 b4, mh_Rg h o h' [b0, b1, b2, b3, b4] ∧ h' o = some (.inr (8, [.ref b0, .ref b4, .int 0])) ∧ h' b0 = some (.inr (7, [.ref b1, .ref b3])) ∧ h' b1 = some (.inr (1, [.ref b2, .int 0])) ∧ h' b2 = some (mh_Ni 12) ∧ h' b3 = some (mh_Ni 12) ∧ h' b4 = some (mh_Nj 20001)
set_option maxRecDepth 100000 in
set_option maxHeartbeats 4000000 in
theorem c_X8_init {l : Launch} {L0 : List Nat} {h : mh_H} {o : Nat} (ho : h o = some (.inr (8, [.null, .null, .int 0]))) : mh_Mc l yX8_init (Cond.code yX8_init cX8_init 1 none :: mh_TB) (mh_rn 3 5 20029) o L0 h (mh_qX8 h o) 5 20029 := by
  refine mh_ofC (by decide) rfl (Nat.le_of_ble_eq_true rfl) (fun p e s m below meth c D ks ls hr hin ao cx wd hl => ?_)
  have hx := cx.1.1
  have hb := cx.1.2.1
  have R0 : mh_Rg h o h [] := mh_Rg.nil (by rw [ho]; exact fun z => by cases z)
  refine lv_aload_n hx hb dX8_init_0 rfl (lv_at hl 0 rfl) ?_
  refine mh_obj cx (mh_in 292 (by decide +kernel) (by decide +kernel)) wo_inst wo_code hl.1 dX8_init_1 ⟨Nat.le_of_ble_eq_true rfl, Nat.le_of_ble_eq_true rfl⟩ ?_
  refine lv_aload_n hx hb dX8_init_4 rfl (lv_at hl 0 rfl) ?_
  refine mh_new cx wd (C := RX7) (T := TX7) (N := 2) (ci := 7) tyX7 [.null, .null] rfl uw_X7 tyX7_ok (mh_in 293 (by decide +kernel) (by decide +kernel)) (mh_in 112 (by decide +kernel) (by decide +kernel)) (mh_in 64 (by decide +kernel) (by decide +kernel)) (fun j hj => by rcases (show j = 0 ∨ j = 1 by omega) with rfl | rfl <;> rfl) (Nat.le_of_ble_eq_true rfl) (Nat.le_of_ble_eq_true rfl) dX8_init_5 (fun q1 L H e2 wd => ?_)
  obtain ⟨h3, eh4⟩ : ∃ x, x = mh_up h q1 (.inr (7, [.null, .null])) := ⟨_, rfl⟩
  rw [← eh4] at wd
  have R5 : mh_Rg h o h3 ([q1]) := by rw [eh4]; exact R0.add e2
  have n6 : q1 ≠ o := fun z => by rw [z, ho] at e2; cases e2
  have ob7 : h3 o = some (.inr (8, [.null, .null, .int 0])) := by rw [eh4, mh_up_ne (fun z => n6 z.symm)]; exact ho
  have f8 : h3 q1 = some (.inr (7, [.null, .null])) := by rw [eh4]; exact mh_up_eq _ _ _
  refine lv_dup hx hb dX8_init_8 rfl ?_
  refine mh_callC (host := "MintHouse") cx ao wd yw_X7_init rfl (mh_nin 294 (by decide +kernel) (by decide +kernel)) (mh_in 114 (by decide +kernel) (by decide +kernel)) hl.1 (Nat.le_of_ble_eq_true rfl) dX8_init_9 ⟨Nat.le_of_ble_eq_true rfl, Nat.le_of_ble_eq_true rfl⟩ ⟨Nat.le_of_ble_eq_true rfl, Nat.le_of_ble_eq_true rfl⟩ (c_X7_init f8) (fun L h9 H locs hp10 wd => ?_)
  obtain ⟨a12, a13, a14, S11, f15, f16, f17, f18⟩ := hp10
  have R19 := R5.call (q := q1) (by simp) S11
  have ob20 : h9 o = some (.inr (8, [.null, .null, .int 0])) := (S11.kept (fun z => n6 z.symm) (by rw [ob7]; exact fun z => by cases z)).trans ob7
  have n21 : a12 ≠ o := fun z => by have w := (S11.2.1 a12 (by simp)).1; rw [z, ob7] at w; cases w
  have n22 : a13 ≠ o := fun z => by have w := (S11.2.1 a13 (by simp)).1; rw [z, ob7] at w; cases w
  have n23 : a14 ≠ o := fun z => by have w := (S11.2.1 a14 (by simp)).1; rw [z, ob7] at w; cases w
  refine mh_putF cx wd hin (ci := 8) (k := 0) (C := RX8) (T := TX8) (N := 3) (ty0 := tyX8) (ty := (.object RX7)) ob20 rfl (by decide) uw_X8 (mh_in 295 (by decide +kernel) (by decide +kernel)) tyX8_ok nmX8 rfl rfl (by decide +kernel) rfl rfl (Nat.le_of_ble_eq_true rfl) dX8_init_12 (fun H locs wd => ?_)
  obtain ⟨h24, eh25⟩ : ∃ x, x = mh_up h9 o (.inr (8, [.ref q1, .null, .int 0])) := ⟨_, rfl⟩
  have wd : mh_W D ks L (mh_A L0 s.heap.size) s.heap h24 H locs := by rw [eh25]; exact wd
  have R26 : mh_Rg h o h24 [q1, a12, a13, a14] := by rw [eh25]; exact R19.set
  have ob27 : h24 o = some (.inr (8, [.ref q1, .null, .int 0])) := by rw [eh25]; exact mh_up_eq _ _ _
  have f28 : h24 q1 = some (.inr (7, [.ref a12, .ref a14])) := by rw [eh25, mh_up_ne n6]; exact f15
  have f29 : h24 a12 = some (.inr (1, [.ref a13, .int 0])) := by rw [eh25, mh_up_ne n21]; exact f16
  have f30 : h24 a13 = some (mh_Ni 12) := by rw [eh25, mh_up_ne n22]; exact f17
  have f31 : h24 a14 = some (mh_Ni 12) := by rw [eh25, mh_up_ne n23]; exact f18
  refine lv_aload_n hx hb dX8_init_15 rfl (lv_at hl 0 rfl) ?_
  refine lv_sipush (v := 20001) hx hb dX8_init_16 (by decide) ?_
  refine mh_nwj (N' := 20001) cx wd wo_long (by decide) rfl (by decide) (Nat.le_of_ble_eq_true rfl) (Nat.le_of_ble_eq_true rfl) dX8_init_19 (fun q32 L H e33 wd => ?_)
  obtain ⟨h34, eh35⟩ : ∃ x, x = mh_up h24 q32 (mh_Nj 20001) := ⟨_, rfl⟩
  rw [← eh35] at wd
  have R36 : mh_Rg h o h34 ([q1, a12, a13, a14, q32]) := by rw [eh35]; exact R26.add e33
  have n37 : q32 ≠ o := fun z => by rw [z, ob27] at e33; cases e33
  have ob38 : h34 o = some (.inr (8, [.ref q1, .null, .int 0])) := by rw [eh35, mh_up_ne (fun z => n37 z.symm)]; exact ob27
  have n_q1_q32 : q1 ≠ q32 := fun z => by rw [z, e33] at f28; cases f28
  have f39 : h34 q1 = some (.inr (7, [.ref a12, .ref a14])) := by rw [eh35, mh_up_ne n_q1_q32]; exact f28
  have n_a12_q32 : a12 ≠ q32 := fun z => by rw [z, e33] at f29; cases f29
  have f40 : h34 a12 = some (.inr (1, [.ref a13, .int 0])) := by rw [eh35, mh_up_ne n_a12_q32]; exact f29
  have n_a13_q32 : a13 ≠ q32 := fun z => by rw [z, e33] at f30; cases f30
  have f41 : h34 a13 = some (mh_Ni 12) := by rw [eh35, mh_up_ne n_a13_q32]; exact f30
  have n_a14_q32 : a14 ≠ q32 := fun z => by rw [z, e33] at f31; cases f31
  have f42 : h34 a14 = some (mh_Ni 12) := by rw [eh35, mh_up_ne n_a14_q32]; exact f31
  have f43 : h34 q32 = some (mh_Nj 20001) := by rw [eh35]; exact mh_up_eq _ _ _
  refine mh_putF cx wd hin (ci := 8) (k := 1) (C := RX8) (T := TX8) (N := 3) (ty0 := tyX8) (ty := (.array .long)) ob38 rfl (by decide) uw_X8 (mh_in 296 (by decide +kernel) (by decide +kernel)) tyX8_ok nmX8 rfl rfl (by decide +kernel) rfl rfl (Nat.le_of_ble_eq_true rfl) dX8_init_21 (fun H locs wd => ?_)
  obtain ⟨h44, eh45⟩ : ∃ x, x = mh_up h34 o (.inr (8, [.ref q1, .ref q32, .int 0])) := ⟨_, rfl⟩
  have wd : mh_W D ks L (mh_A L0 s.heap.size) s.heap h44 H locs := by rw [eh45]; exact wd
  have R46 : mh_Rg h o h44 [q1, a12, a13, a14, q32] := by rw [eh45]; exact R36.set
  have ob47 : h44 o = some (.inr (8, [.ref q1, .ref q32, .int 0])) := by rw [eh45]; exact mh_up_eq _ _ _
  have f48 : h44 q1 = some (.inr (7, [.ref a12, .ref a14])) := by rw [eh45, mh_up_ne n6]; exact f39
  have f49 : h44 a12 = some (.inr (1, [.ref a13, .int 0])) := by rw [eh45, mh_up_ne n21]; exact f40
  have f50 : h44 a13 = some (mh_Ni 12) := by rw [eh45, mh_up_ne n22]; exact f41
  have f51 : h44 a14 = some (mh_Ni 12) := by rw [eh45, mh_up_ne n23]; exact f42
  have f52 : h44 q32 = some (mh_Nj 20001) := by rw [eh45, mh_up_ne n37]; exact f43
  refine lv_aload_n hx hb dX8_init_24 rfl (lv_at hl 0 rfl) ?_
  refine lv_iconst (v := 0) hx hb dX8_init_25 (by decide) ?_
  refine mh_putN (k := 2) cx wd ob47 (Nat.le_of_ble_eq_true rfl)  fp_X8_22 dX8_init_26 (fun H locs wd => ?_)
  obtain ⟨h53, eh54⟩ : ∃ x, x = mh_up h44 o (.inr (8, [.ref q1, .ref q32, .int 0])) := ⟨_, rfl⟩
  have wd : mh_W D ks L (mh_A L0 s.heap.size) s.heap h53 H locs := by rw [eh54]; exact wd
  have R55 : mh_Rg h o h53 [q1, a12, a13, a14, q32] := by rw [eh54]; exact R46.set
  have ob56 : h53 o = some (.inr (8, [.ref q1, .ref q32, .int 0])) := by rw [eh54]; exact mh_up_eq _ _ _
  have f57 : h53 q1 = some (.inr (7, [.ref a12, .ref a14])) := by rw [eh54, mh_up_ne n6]; exact f48
  have f58 : h53 a12 = some (.inr (1, [.ref a13, .int 0])) := by rw [eh54, mh_up_ne n21]; exact f49
  have f59 : h53 a13 = some (mh_Ni 12) := by rw [eh54, mh_up_ne n22]; exact f50
  have f60 : h53 a14 = some (mh_Ni 12) := by rw [eh54, mh_up_ne n23]; exact f51
  have f61 : h53 q32 = some (mh_Nj 20001) := by rw [eh54, mh_up_ne n37]; exact f52
  exact mh_cret cx wd hr ⟨q1, a12, a13, a14, q32, R55, ob56, f57, f58, f59, f60, f61⟩ dX8_init_29 ⟨Nat.le_of_ble_eq_true rfl, Nat.le_of_ble_eq_true rfl⟩
def mh_qX9 (h : mh_H) (o : Nat) (h' : mh_H) : Prop := ∃ b0 b1 b2 b3 b4 b5, mh_Rg h o h' [b0, b1, b2, b3, b4, b5] ∧ h' o = some (.inr (9, [.ref b0, .ref b2, .ref b4, .ref b5, .int 0, .int 0])) ∧ h' b0 = some (.inr (1, [.ref b1, .int 0])) ∧ h' b1 = some (mh_Ni 12) ∧ h' b2 = some (.inr (1, [.ref b3, .int 0])) ∧ h' b3 = some (mh_Ni 12) ∧ h' b4 = some (mh_Ni 7) ∧ h' b5 = some (mh_Ni 7)
set_option maxRecDepth 100000 in
set_option maxHeartbeats 4000000 in
theorem c_X9_init {l : Launch} {L0 : List Nat} {h : mh_H} {o : Nat} (ho : h o = some (.inr (9, [.null, .null, .null, .null, .int 0, .int 0]))) : mh_Mc l yX9_init (Cond.code yX9_init cX9_init 1 none :: mh_TB) (mh_rn 2 6 42) o L0 h (mh_qX9 h o) 6 42 := by
  refine mh_ofC (by decide) rfl (Nat.le_of_ble_eq_true rfl) (fun p e s m below meth c D ks ls hr hin ao cx wd hl => ?_)
  have hx := cx.1.1
  have hb := cx.1.2.1
  have R0 : mh_Rg h o h [] := mh_Rg.nil (by rw [ho]; exact fun z => by cases z)
  refine lv_aload_n hx hb dX9_init_0 rfl (lv_at hl 0 rfl) ?_
  refine mh_obj cx (mh_in 265 (by decide +kernel) (by decide +kernel)) wo_inst wo_code hl.1 dX9_init_1 ⟨Nat.le_of_ble_eq_true rfl, Nat.le_of_ble_eq_true rfl⟩ ?_
  refine lv_aload_n hx hb dX9_init_4 rfl (lv_at hl 0 rfl) ?_
  refine mh_new cx wd (C := RX1) (T := TX1) (N := 2) (ci := 1) tyX1 [.null, .int 0] rfl uw_X1 tyX1_ok (mh_in 266 (by decide +kernel) (by decide +kernel)) (mh_in 99 (by decide +kernel) (by decide +kernel)) (mh_in 63 (by decide +kernel) (by decide +kernel)) (fun j hj => by rcases (show j = 0 ∨ j = 1 by omega) with rfl | rfl <;> rfl) (Nat.le_of_ble_eq_true rfl) (Nat.le_of_ble_eq_true rfl) dX9_init_5 (fun q1 L H e2 wd => ?_)
  obtain ⟨h3, eh4⟩ : ∃ x, x = mh_up h q1 (.inr (1, [.null, .int 0])) := ⟨_, rfl⟩
  rw [← eh4] at wd
  have R5 : mh_Rg h o h3 ([q1]) := by rw [eh4]; exact R0.add e2
  have n6 : q1 ≠ o := fun z => by rw [z, ho] at e2; cases e2
  have ob7 : h3 o = some (.inr (9, [.null, .null, .null, .null, .int 0, .int 0])) := by rw [eh4, mh_up_ne (fun z => n6 z.symm)]; exact ho
  have f8 : h3 q1 = some (.inr (1, [.null, .int 0])) := by rw [eh4]; exact mh_up_eq _ _ _
  refine lv_dup hx hb dX9_init_8 rfl ?_
  refine mh_callC (host := "MintHouse") cx ao wd yw_X1_init rfl (mh_nin 267 (by decide +kernel) (by decide +kernel)) (mh_in 101 (by decide +kernel) (by decide +kernel)) hl.1 (Nat.le_of_ble_eq_true rfl) dX9_init_9 ⟨Nat.le_of_ble_eq_true rfl, Nat.le_of_ble_eq_true rfl⟩ ⟨Nat.le_of_ble_eq_true rfl, Nat.le_of_ble_eq_true rfl⟩ (c_X1_inq f8) (fun L h9 H locs hp10 wd => ?_)
  obtain ⟨a12, S11, f13, f14⟩ := hp10
  have R15 := R5.call (q := q1) (by simp) S11
  have ob16 : h9 o = some (.inr (9, [.null, .null, .null, .null, .int 0, .int 0])) := (S11.kept (fun z => n6 z.symm) (by rw [ob7]; exact fun z => by cases z)).trans ob7
  have n17 : a12 ≠ o := fun z => by have w := (S11.2.1 a12 (by simp)).1; rw [z, ob7] at w; cases w
  refine mh_putF cx wd hin (ci := 9) (k := 0) (C := RX9) (T := TX9) (N := 6) (ty0 := tyX9) (ty := (.object RX1)) ob16 rfl (by decide) uw_X9 (mh_in 268 (by decide +kernel) (by decide +kernel)) tyX9_ok nmX9 rfl rfl (by decide +kernel) rfl rfl (Nat.le_of_ble_eq_true rfl) dX9_init_12 (fun H locs wd => ?_)
  obtain ⟨h18, eh19⟩ : ∃ x, x = mh_up h9 o (.inr (9, [.ref q1, .null, .null, .null, .int 0, .int 0])) := ⟨_, rfl⟩
  have wd : mh_W D ks L (mh_A L0 s.heap.size) s.heap h18 H locs := by rw [eh19]; exact wd
  have R20 : mh_Rg h o h18 [q1, a12] := by rw [eh19]; exact R15.set
  have ob21 : h18 o = some (.inr (9, [.ref q1, .null, .null, .null, .int 0, .int 0])) := by rw [eh19]; exact mh_up_eq _ _ _
  have f22 : h18 q1 = some (.inr (1, [.ref a12, .int 0])) := by rw [eh19, mh_up_ne n6]; exact f13
  have f23 : h18 a12 = some (mh_Ni 12) := by rw [eh19, mh_up_ne n17]; exact f14
  refine lv_aload_n hx hb dX9_init_15 rfl (lv_at hl 0 rfl) ?_
  refine mh_new cx wd (C := RX1) (T := TX1) (N := 2) (ci := 1) tyX1 [.null, .int 0] rfl uw_X1 tyX1_ok (mh_in 266 (by decide +kernel) (by decide +kernel)) (mh_in 99 (by decide +kernel) (by decide +kernel)) (mh_in 63 (by decide +kernel) (by decide +kernel)) (fun j hj => by rcases (show j = 0 ∨ j = 1 by omega) with rfl | rfl <;> rfl) (Nat.le_of_ble_eq_true rfl) (Nat.le_of_ble_eq_true rfl) dX9_init_16 (fun q24 L H e25 wd => ?_)
  obtain ⟨h26, eh27⟩ : ∃ x, x = mh_up h18 q24 (.inr (1, [.null, .int 0])) := ⟨_, rfl⟩
  rw [← eh27] at wd
  have R28 : mh_Rg h o h26 ([q1, a12, q24]) := by rw [eh27]; exact R20.add e25
  have n29 : q24 ≠ o := fun z => by rw [z, ob21] at e25; cases e25
  have ob30 : h26 o = some (.inr (9, [.ref q1, .null, .null, .null, .int 0, .int 0])) := by rw [eh27, mh_up_ne (fun z => n29 z.symm)]; exact ob21
  have n_q1_q24 : q1 ≠ q24 := fun z => by rw [z, e25] at f22; cases f22
  have f31 : h26 q1 = some (.inr (1, [.ref a12, .int 0])) := by rw [eh27, mh_up_ne n_q1_q24]; exact f22
  have n_a12_q24 : a12 ≠ q24 := fun z => by rw [z, e25] at f23; cases f23
  have f32 : h26 a12 = some (mh_Ni 12) := by rw [eh27, mh_up_ne n_a12_q24]; exact f23
  have f33 : h26 q24 = some (.inr (1, [.null, .int 0])) := by rw [eh27]; exact mh_up_eq _ _ _
  refine lv_dup hx hb dX9_init_19 rfl ?_
  refine mh_callC (host := "MintHouse") cx ao wd yw_X1_init rfl (mh_nin 267 (by decide +kernel) (by decide +kernel)) (mh_in 101 (by decide +kernel) (by decide +kernel)) hl.1 (Nat.le_of_ble_eq_true rfl) dX9_init_20 ⟨Nat.le_of_ble_eq_true rfl, Nat.le_of_ble_eq_true rfl⟩ ⟨Nat.le_of_ble_eq_true rfl, Nat.le_of_ble_eq_true rfl⟩ (c_X1_inq f33) (fun L h34 H locs hp35 wd => ?_)
  obtain ⟨a37, S36, f38, f39⟩ := hp35
  have R40 := R28.call (q := q24) (by simp) S36
  have ob41 : h34 o = some (.inr (9, [.ref q1, .null, .null, .null, .int 0, .int 0])) := (S36.kept (fun z => n29 z.symm) (by rw [ob30]; exact fun z => by cases z)).trans ob30
  have f42 : h34 q1 = some (.inr (1, [.ref a12, .int 0])) := (S36.kept n_q1_q24 (by rw [f31]; exact fun z => by cases z)).trans f31
  have f43 : h34 a12 = some (mh_Ni 12) := (S36.kept n_a12_q24 (by rw [f32]; exact fun z => by cases z)).trans f32
  have n44 : a37 ≠ o := fun z => by have w := (S36.2.1 a37 (by simp)).1; rw [z, ob30] at w; cases w
  refine mh_putF cx wd hin (ci := 9) (k := 1) (C := RX9) (T := TX9) (N := 6) (ty0 := tyX9) (ty := (.object RX1)) ob41 rfl (by decide) uw_X9 (mh_in 269 (by decide +kernel) (by decide +kernel)) tyX9_ok nmX9 rfl rfl (by decide +kernel) rfl rfl (Nat.le_of_ble_eq_true rfl) dX9_init_23 (fun H locs wd => ?_)
  obtain ⟨h45, eh46⟩ : ∃ x, x = mh_up h34 o (.inr (9, [.ref q1, .ref q24, .null, .null, .int 0, .int 0])) := ⟨_, rfl⟩
  have wd : mh_W D ks L (mh_A L0 s.heap.size) s.heap h45 H locs := by rw [eh46]; exact wd
  have R47 : mh_Rg h o h45 [q1, a12, q24, a37] := by rw [eh46]; exact R40.set
  have ob48 : h45 o = some (.inr (9, [.ref q1, .ref q24, .null, .null, .int 0, .int 0])) := by rw [eh46]; exact mh_up_eq _ _ _
  have f49 : h45 q1 = some (.inr (1, [.ref a12, .int 0])) := by rw [eh46, mh_up_ne n6]; exact f42
  have f50 : h45 a12 = some (mh_Ni 12) := by rw [eh46, mh_up_ne n17]; exact f43
  have f51 : h45 q24 = some (.inr (1, [.ref a37, .int 0])) := by rw [eh46, mh_up_ne n29]; exact f38
  have f52 : h45 a37 = some (mh_Ni 12) := by rw [eh46, mh_up_ne n44]; exact f39
  refine lv_aload_n hx hb dX9_init_26 rfl (lv_at hl 0 rfl) ?_
  refine lv_bipush (v := 7) hx hb dX9_init_27 (by decide) ?_
  refine mh_nwi (N' := 7) cx wd wo_int (by decide) rfl (by decide) (Nat.le_of_ble_eq_true rfl) (Nat.le_of_ble_eq_true rfl) dX9_init_29 (fun q53 L H e54 wd => ?_)
  obtain ⟨h55, eh56⟩ : ∃ x, x = mh_up h45 q53 (mh_Ni 7) := ⟨_, rfl⟩
  rw [← eh56] at wd
  have R57 : mh_Rg h o h55 ([q1, a12, q24, a37, q53]) := by rw [eh56]; exact R47.add e54
  have n58 : q53 ≠ o := fun z => by rw [z, ob48] at e54; cases e54
  have ob59 : h55 o = some (.inr (9, [.ref q1, .ref q24, .null, .null, .int 0, .int 0])) := by rw [eh56, mh_up_ne (fun z => n58 z.symm)]; exact ob48
  have n_q1_q53 : q1 ≠ q53 := fun z => by rw [z, e54] at f49; cases f49
  have f60 : h55 q1 = some (.inr (1, [.ref a12, .int 0])) := by rw [eh56, mh_up_ne n_q1_q53]; exact f49
  have n_a12_q53 : a12 ≠ q53 := fun z => by rw [z, e54] at f50; cases f50
  have f61 : h55 a12 = some (mh_Ni 12) := by rw [eh56, mh_up_ne n_a12_q53]; exact f50
  have n_q24_q53 : q24 ≠ q53 := fun z => by rw [z, e54] at f51; cases f51
  have f62 : h55 q24 = some (.inr (1, [.ref a37, .int 0])) := by rw [eh56, mh_up_ne n_q24_q53]; exact f51
  have n_a37_q53 : a37 ≠ q53 := fun z => by rw [z, e54] at f52; cases f52
  have f63 : h55 a37 = some (mh_Ni 12) := by rw [eh56, mh_up_ne n_a37_q53]; exact f52
  have f64 : h55 q53 = some (mh_Ni 7) := by rw [eh56]; exact mh_up_eq _ _ _
  refine mh_putF cx wd hin (ci := 9) (k := 2) (C := RX9) (T := TX9) (N := 6) (ty0 := tyX9) (ty := (.array .int)) ob59 rfl (by decide) uw_X9 (mh_in 270 (by decide +kernel) (by decide +kernel)) tyX9_ok nmX9 rfl rfl (by decide +kernel) rfl rfl (Nat.le_of_ble_eq_true rfl) dX9_init_31 (fun H locs wd => ?_)
  obtain ⟨h65, eh66⟩ : ∃ x, x = mh_up h55 o (.inr (9, [.ref q1, .ref q24, .ref q53, .null, .int 0, .int 0])) := ⟨_, rfl⟩
  have wd : mh_W D ks L (mh_A L0 s.heap.size) s.heap h65 H locs := by rw [eh66]; exact wd
  have R67 : mh_Rg h o h65 [q1, a12, q24, a37, q53] := by rw [eh66]; exact R57.set
  have ob68 : h65 o = some (.inr (9, [.ref q1, .ref q24, .ref q53, .null, .int 0, .int 0])) := by rw [eh66]; exact mh_up_eq _ _ _
  have f69 : h65 q1 = some (.inr (1, [.ref a12, .int 0])) := by rw [eh66, mh_up_ne n6]; exact f60
  have f70 : h65 a12 = some (mh_Ni 12) := by rw [eh66, mh_up_ne n17]; exact f61
  have f71 : h65 q24 = some (.inr (1, [.ref a37, .int 0])) := by rw [eh66, mh_up_ne n29]; exact f62
  have f72 : h65 a37 = some (mh_Ni 12) := by rw [eh66, mh_up_ne n44]; exact f63
  have f73 : h65 q53 = some (mh_Ni 7) := by rw [eh66, mh_up_ne n58]; exact f64
  refine lv_aload_n hx hb dX9_init_34 rfl (lv_at hl 0 rfl) ?_
  refine lv_bipush (v := 7) hx hb dX9_init_35 (by decide) ?_
  refine mh_nwi (N' := 7) cx wd wo_int (by decide) rfl (by decide) (Nat.le_of_ble_eq_true rfl) (Nat.le_of_ble_eq_true rfl) dX9_init_37 (fun q74 L H e75 wd => ?_)
  obtain ⟨h76, eh77⟩ : ∃ x, x = mh_up h65 q74 (mh_Ni 7) := ⟨_, rfl⟩
  rw [← eh77] at wd
  have R78 : mh_Rg h o h76 ([q1, a12, q24, a37, q53, q74]) := by rw [eh77]; exact R67.add e75
  have n79 : q74 ≠ o := fun z => by rw [z, ob68] at e75; cases e75
  have ob80 : h76 o = some (.inr (9, [.ref q1, .ref q24, .ref q53, .null, .int 0, .int 0])) := by rw [eh77, mh_up_ne (fun z => n79 z.symm)]; exact ob68
  have n_q1_q74 : q1 ≠ q74 := fun z => by rw [z, e75] at f69; cases f69
  have f81 : h76 q1 = some (.inr (1, [.ref a12, .int 0])) := by rw [eh77, mh_up_ne n_q1_q74]; exact f69
  have n_a12_q74 : a12 ≠ q74 := fun z => by rw [z, e75] at f70; cases f70
  have f82 : h76 a12 = some (mh_Ni 12) := by rw [eh77, mh_up_ne n_a12_q74]; exact f70
  have n_q24_q74 : q24 ≠ q74 := fun z => by rw [z, e75] at f71; cases f71
  have f83 : h76 q24 = some (.inr (1, [.ref a37, .int 0])) := by rw [eh77, mh_up_ne n_q24_q74]; exact f71
  have n_a37_q74 : a37 ≠ q74 := fun z => by rw [z, e75] at f72; cases f72
  have f84 : h76 a37 = some (mh_Ni 12) := by rw [eh77, mh_up_ne n_a37_q74]; exact f72
  have n_q53_q74 : q53 ≠ q74 := fun z => by rw [z, e75] at f73; cases f73
  have f85 : h76 q53 = some (mh_Ni 7) := by rw [eh77, mh_up_ne n_q53_q74]; exact f73
  have f86 : h76 q74 = some (mh_Ni 7) := by rw [eh77]; exact mh_up_eq _ _ _
  refine mh_putF cx wd hin (ci := 9) (k := 3) (C := RX9) (T := TX9) (N := 6) (ty0 := tyX9) (ty := (.array .int)) ob80 rfl (by decide) uw_X9 (mh_in 271 (by decide +kernel) (by decide +kernel)) tyX9_ok nmX9 rfl rfl (by decide +kernel) rfl rfl (Nat.le_of_ble_eq_true rfl) dX9_init_39 (fun H locs wd => ?_)
  obtain ⟨h87, eh88⟩ : ∃ x, x = mh_up h76 o (.inr (9, [.ref q1, .ref q24, .ref q53, .ref q74, .int 0, .int 0])) := ⟨_, rfl⟩
  have wd : mh_W D ks L (mh_A L0 s.heap.size) s.heap h87 H locs := by rw [eh88]; exact wd
  have R89 : mh_Rg h o h87 [q1, a12, q24, a37, q53, q74] := by rw [eh88]; exact R78.set
  have ob90 : h87 o = some (.inr (9, [.ref q1, .ref q24, .ref q53, .ref q74, .int 0, .int 0])) := by rw [eh88]; exact mh_up_eq _ _ _
  have f91 : h87 q1 = some (.inr (1, [.ref a12, .int 0])) := by rw [eh88, mh_up_ne n6]; exact f81
  have f92 : h87 a12 = some (mh_Ni 12) := by rw [eh88, mh_up_ne n17]; exact f82
  have f93 : h87 q24 = some (.inr (1, [.ref a37, .int 0])) := by rw [eh88, mh_up_ne n29]; exact f83
  have f94 : h87 a37 = some (mh_Ni 12) := by rw [eh88, mh_up_ne n44]; exact f84
  have f95 : h87 q53 = some (mh_Ni 7) := by rw [eh88, mh_up_ne n58]; exact f85
  have f96 : h87 q74 = some (mh_Ni 7) := by rw [eh88, mh_up_ne n79]; exact f86
  refine lv_aload_n hx hb dX9_init_42 rfl (lv_at hl 0 rfl) ?_
  refine lv_iconst (v := 0) hx hb dX9_init_43 (by decide) ?_
  refine mh_putN (k := 4) cx wd ob90 (Nat.le_of_ble_eq_true rfl)  fp_X9_28 dX9_init_44 (fun H locs wd => ?_)
  obtain ⟨h97, eh98⟩ : ∃ x, x = mh_up h87 o (.inr (9, [.ref q1, .ref q24, .ref q53, .ref q74, .int 0, .int 0])) := ⟨_, rfl⟩
  have wd : mh_W D ks L (mh_A L0 s.heap.size) s.heap h97 H locs := by rw [eh98]; exact wd
  have R99 : mh_Rg h o h97 [q1, a12, q24, a37, q53, q74] := by rw [eh98]; exact R89.set
  have ob100 : h97 o = some (.inr (9, [.ref q1, .ref q24, .ref q53, .ref q74, .int 0, .int 0])) := by rw [eh98]; exact mh_up_eq _ _ _
  have f101 : h97 q1 = some (.inr (1, [.ref a12, .int 0])) := by rw [eh98, mh_up_ne n6]; exact f91
  have f102 : h97 a12 = some (mh_Ni 12) := by rw [eh98, mh_up_ne n17]; exact f92
  have f103 : h97 q24 = some (.inr (1, [.ref a37, .int 0])) := by rw [eh98, mh_up_ne n29]; exact f93
  have f104 : h97 a37 = some (mh_Ni 12) := by rw [eh98, mh_up_ne n44]; exact f94
  have f105 : h97 q53 = some (mh_Ni 7) := by rw [eh98, mh_up_ne n58]; exact f95
  have f106 : h97 q74 = some (mh_Ni 7) := by rw [eh98, mh_up_ne n79]; exact f96
  refine lv_aload_n hx hb dX9_init_47 rfl (lv_at hl 0 rfl) ?_
  refine lv_iconst (v := 0) hx hb dX9_init_48 (by decide) ?_
  refine mh_putN (k := 5) cx wd ob100 (Nat.le_of_ble_eq_true rfl)  fp_X9_32 dX9_init_49 (fun H locs wd => ?_)
  obtain ⟨h107, eh108⟩ : ∃ x, x = mh_up h97 o (.inr (9, [.ref q1, .ref q24, .ref q53, .ref q74, .int 0, .int 0])) := ⟨_, rfl⟩
  have wd : mh_W D ks L (mh_A L0 s.heap.size) s.heap h107 H locs := by rw [eh108]; exact wd
  have R109 : mh_Rg h o h107 [q1, a12, q24, a37, q53, q74] := by rw [eh108]; exact R99.set
  have ob110 : h107 o = some (.inr (9, [.ref q1, .ref q24, .ref q53, .ref q74, .int 0, .int 0])) := by rw [eh108]; exact mh_up_eq _ _ _
  have f111 : h107 q1 = some (.inr (1, [.ref a12, .int 0])) := by rw [eh108, mh_up_ne n6]; exact f101
  have f112 : h107 a12 = some (mh_Ni 12) := by rw [eh108, mh_up_ne n17]; exact f102
  have f113 : h107 q24 = some (.inr (1, [.ref a37, .int 0])) := by rw [eh108, mh_up_ne n29]; exact f103
  have f114 : h107 a37 = some (mh_Ni 12) := by rw [eh108, mh_up_ne n44]; exact f104
  have f115 : h107 q53 = some (mh_Ni 7) := by rw [eh108, mh_up_ne n58]; exact f105
  have f116 : h107 q74 = some (mh_Ni 7) := by rw [eh108, mh_up_ne n79]; exact f106
  exact mh_cret cx wd hr ⟨q1, a12, q24, a37, q53, q74, R109, ob110, f111, f112, f113, f114, f115, f116⟩ dX9_init_52 ⟨Nat.le_of_ble_eq_true rfl, Nat.le_of_ble_eq_true rfl⟩
def mh_qX2 (h : mh_H) (o : Nat) (h' : mh_H) : Prop := ∃ b0 b1 b2 b3 b4, mh_Rg h o h' [b0, b1, b2, b3, b4] ∧ h' o = some (.inr (2, [.ref b0, .ref b2, .ref b3, .int 0, .int 0])) ∧ h' b0 = some (.inr (1, [.ref b1, .int 0])) ∧ h' b1 = some (mh_Ni 12) ∧ h' b2 = some (mh_Ni 90000) ∧ h' b3 = some (.inr (0, [.ref b4, .int 1])) ∧ h' b4 = some (mh_Ni 300)
set_option maxRecDepth 100000 in
set_option maxHeartbeats 4000000 in
theorem c_X2_init {l : Launch} {L0 : List Nat} {h : mh_H} {o : Nat} (ho : h o = some (.inr (2, [.null, .null, .null, .int 0, .int 0]))) : mh_Mc l yX2_init (Cond.code yX2_init cX2_init 1 none :: mh_TB) (mh_rn 2 5 90316) o L0 h (mh_qX2 h o) 5 90316 := by
  refine mh_ofC (by decide) rfl (Nat.le_of_ble_eq_true rfl) (fun p e s m below meth c D ks ls hr hin ao cx wd hl => ?_)
  have hx := cx.1.1
  have hb := cx.1.2.1
  have R0 : mh_Rg h o h [] := mh_Rg.nil (by rw [ho]; exact fun z => by cases z)
  refine lv_aload_n hx hb dX2_init_0 rfl (lv_at hl 0 rfl) ?_
  refine mh_obj cx (mh_in 147 (by decide +kernel) (by decide +kernel)) wo_inst wo_code hl.1 dX2_init_1 ⟨Nat.le_of_ble_eq_true rfl, Nat.le_of_ble_eq_true rfl⟩ ?_
  refine lv_aload_n hx hb dX2_init_4 rfl (lv_at hl 0 rfl) ?_
  refine mh_new cx wd (C := RX1) (T := TX1) (N := 2) (ci := 1) tyX1 [.null, .int 0] rfl uw_X1 tyX1_ok (mh_in 148 (by decide +kernel) (by decide +kernel)) (mh_in 99 (by decide +kernel) (by decide +kernel)) (mh_in 63 (by decide +kernel) (by decide +kernel)) (fun j hj => by rcases (show j = 0 ∨ j = 1 by omega) with rfl | rfl <;> rfl) (Nat.le_of_ble_eq_true rfl) (Nat.le_of_ble_eq_true rfl) dX2_init_5 (fun q1 L H e2 wd => ?_)
  obtain ⟨h3, eh4⟩ : ∃ x, x = mh_up h q1 (.inr (1, [.null, .int 0])) := ⟨_, rfl⟩
  rw [← eh4] at wd
  have R5 : mh_Rg h o h3 ([q1]) := by rw [eh4]; exact R0.add e2
  have n6 : q1 ≠ o := fun z => by rw [z, ho] at e2; cases e2
  have ob7 : h3 o = some (.inr (2, [.null, .null, .null, .int 0, .int 0])) := by rw [eh4, mh_up_ne (fun z => n6 z.symm)]; exact ho
  have f8 : h3 q1 = some (.inr (1, [.null, .int 0])) := by rw [eh4]; exact mh_up_eq _ _ _
  refine lv_dup hx hb dX2_init_8 rfl ?_
  refine mh_callC (host := "MintHouse") cx ao wd yw_X1_init rfl (mh_nin 149 (by decide +kernel) (by decide +kernel)) (mh_in 101 (by decide +kernel) (by decide +kernel)) hl.1 (Nat.le_of_ble_eq_true rfl) dX2_init_9 ⟨Nat.le_of_ble_eq_true rfl, Nat.le_of_ble_eq_true rfl⟩ ⟨Nat.le_of_ble_eq_true rfl, Nat.le_of_ble_eq_true rfl⟩ (c_X1_inq f8) (fun L h9 H locs hp10 wd => ?_)
  obtain ⟨a12, S11, f13, f14⟩ := hp10
  have R15 := R5.call (q := q1) (by simp) S11
  have ob16 : h9 o = some (.inr (2, [.null, .null, .null, .int 0, .int 0])) := (S11.kept (fun z => n6 z.symm) (by rw [ob7]; exact fun z => by cases z)).trans ob7
  have n17 : a12 ≠ o := fun z => by have w := (S11.2.1 a12 (by simp)).1; rw [z, ob7] at w; cases w
  refine mh_putF cx wd hin (ci := 2) (k := 0) (C := RX2) (T := TX2) (N := 5) (ty0 := tyX2) (ty := (.object RX1)) ob16 rfl (by decide) uw_X2 (mh_in 164 (by decide +kernel) (by decide +kernel)) tyX2_ok nmX2 rfl rfl (by decide +kernel) rfl rfl (Nat.le_of_ble_eq_true rfl) dX2_init_12 (fun H locs wd => ?_)
  obtain ⟨h18, eh19⟩ : ∃ x, x = mh_up h9 o (.inr (2, [.ref q1, .null, .null, .int 0, .int 0])) := ⟨_, rfl⟩
  have wd : mh_W D ks L (mh_A L0 s.heap.size) s.heap h18 H locs := by rw [eh19]; exact wd
  have R20 : mh_Rg h o h18 [q1, a12] := by rw [eh19]; exact R15.set
  have ob21 : h18 o = some (.inr (2, [.ref q1, .null, .null, .int 0, .int 0])) := by rw [eh19]; exact mh_up_eq _ _ _
  have f22 : h18 q1 = some (.inr (1, [.ref a12, .int 0])) := by rw [eh19, mh_up_ne n6]; exact f13
  have f23 : h18 a12 = some (mh_Ni 12) := by rw [eh19, mh_up_ne n17]; exact f14
  refine lv_aload_n hx hb dX2_init_15 rfl (lv_at hl 0 rfl) ?_
  refine mh_ldc cx (show Cond.constant RX2 18 (90000) ∈ mh_TB from (mh_in 150 (by decide +kernel) (by decide +kernel))) dX2_init_16 ?_
  refine mh_nwi (N' := 90000) cx wd wo_int (by decide) rfl (by decide) (Nat.le_of_ble_eq_true rfl) (Nat.le_of_ble_eq_true rfl) dX2_init_18 (fun q24 L H e25 wd => ?_)
  obtain ⟨h26, eh27⟩ : ∃ x, x = mh_up h18 q24 (mh_Ni 90000) := ⟨_, rfl⟩
  rw [← eh27] at wd
  have R28 : mh_Rg h o h26 ([q1, a12, q24]) := by rw [eh27]; exact R20.add e25
  have n29 : q24 ≠ o := fun z => by rw [z, ob21] at e25; cases e25
  have ob30 : h26 o = some (.inr (2, [.ref q1, .null, .null, .int 0, .int 0])) := by rw [eh27, mh_up_ne (fun z => n29 z.symm)]; exact ob21
  have n_q1_q24 : q1 ≠ q24 := fun z => by rw [z, e25] at f22; cases f22
  have f31 : h26 q1 = some (.inr (1, [.ref a12, .int 0])) := by rw [eh27, mh_up_ne n_q1_q24]; exact f22
  have n_a12_q24 : a12 ≠ q24 := fun z => by rw [z, e25] at f23; cases f23
  have f32 : h26 a12 = some (mh_Ni 12) := by rw [eh27, mh_up_ne n_a12_q24]; exact f23
  have f33 : h26 q24 = some (mh_Ni 90000) := by rw [eh27]; exact mh_up_eq _ _ _
  refine mh_putF cx wd hin (ci := 2) (k := 1) (C := RX2) (T := TX2) (N := 5) (ty0 := tyX2) (ty := (.array .int)) ob30 rfl (by decide) uw_X2 (mh_in 165 (by decide +kernel) (by decide +kernel)) tyX2_ok nmX2 rfl rfl (by decide +kernel) rfl rfl (Nat.le_of_ble_eq_true rfl) dX2_init_20 (fun H locs wd => ?_)
  obtain ⟨h34, eh35⟩ : ∃ x, x = mh_up h26 o (.inr (2, [.ref q1, .ref q24, .null, .int 0, .int 0])) := ⟨_, rfl⟩
  have wd : mh_W D ks L (mh_A L0 s.heap.size) s.heap h34 H locs := by rw [eh35]; exact wd
  have R36 : mh_Rg h o h34 [q1, a12, q24] := by rw [eh35]; exact R28.set
  have ob37 : h34 o = some (.inr (2, [.ref q1, .ref q24, .null, .int 0, .int 0])) := by rw [eh35]; exact mh_up_eq _ _ _
  have f38 : h34 q1 = some (.inr (1, [.ref a12, .int 0])) := by rw [eh35, mh_up_ne n6]; exact f31
  have f39 : h34 a12 = some (mh_Ni 12) := by rw [eh35, mh_up_ne n17]; exact f32
  have f40 : h34 q24 = some (mh_Ni 90000) := by rw [eh35, mh_up_ne n29]; exact f33
  refine lv_aload_n hx hb dX2_init_23 rfl (lv_at hl 0 rfl) ?_
  refine mh_new cx wd (C := RX0) (T := TX0) (N := 2) (ci := 0) tyX0 [.null, .int 0] rfl uw_X0 tyX0_ok (mh_in 151 (by decide +kernel) (by decide +kernel)) (mh_in 152 (by decide +kernel) (by decide +kernel)) (mh_in 66 (by decide +kernel) (by decide +kernel)) (fun j hj => by rcases (show j = 0 ∨ j = 1 by omega) with rfl | rfl <;> rfl) (Nat.le_of_ble_eq_true rfl) (Nat.le_of_ble_eq_true rfl) dX2_init_24 (fun q41 L H e42 wd => ?_)
  obtain ⟨h43, eh44⟩ : ∃ x, x = mh_up h34 q41 (.inr (0, [.null, .int 0])) := ⟨_, rfl⟩
  rw [← eh44] at wd
  have R45 : mh_Rg h o h43 ([q1, a12, q24, q41]) := by rw [eh44]; exact R36.add e42
  have n46 : q41 ≠ o := fun z => by rw [z, ob37] at e42; cases e42
  have ob47 : h43 o = some (.inr (2, [.ref q1, .ref q24, .null, .int 0, .int 0])) := by rw [eh44, mh_up_ne (fun z => n46 z.symm)]; exact ob37
  have n_q1_q41 : q1 ≠ q41 := fun z => by rw [z, e42] at f38; cases f38
  have f48 : h43 q1 = some (.inr (1, [.ref a12, .int 0])) := by rw [eh44, mh_up_ne n_q1_q41]; exact f38
  have n_a12_q41 : a12 ≠ q41 := fun z => by rw [z, e42] at f39; cases f39
  have f49 : h43 a12 = some (mh_Ni 12) := by rw [eh44, mh_up_ne n_a12_q41]; exact f39
  have n_q24_q41 : q24 ≠ q41 := fun z => by rw [z, e42] at f40; cases f40
  have f50 : h43 q24 = some (mh_Ni 90000) := by rw [eh44, mh_up_ne n_q24_q41]; exact f40
  have f51 : h43 q41 = some (.inr (0, [.null, .int 0])) := by rw [eh44]; exact mh_up_eq _ _ _
  refine lv_dup hx hb dX2_init_27 rfl ?_
  refine mh_callC (host := "MintHouse") cx ao wd yw_X0_init rfl (mh_nin 153 (by decide +kernel) (by decide +kernel)) (mh_in 154 (by decide +kernel) (by decide +kernel)) hl.1 (Nat.le_of_ble_eq_true rfl) dX2_init_28 ⟨Nat.le_of_ble_eq_true rfl, Nat.le_of_ble_eq_true rfl⟩ ⟨Nat.le_of_ble_eq_true rfl, Nat.le_of_ble_eq_true rfl⟩ (c_X0_init f51) (fun L h52 H locs hp53 wd => ?_)
  obtain ⟨a55, S54, f56, f57⟩ := hp53
  have R58 := R45.call (q := q41) (by simp) S54
  have ob59 : h52 o = some (.inr (2, [.ref q1, .ref q24, .null, .int 0, .int 0])) := (S54.kept (fun z => n46 z.symm) (by rw [ob47]; exact fun z => by cases z)).trans ob47
  have f60 : h52 q1 = some (.inr (1, [.ref a12, .int 0])) := (S54.kept n_q1_q41 (by rw [f48]; exact fun z => by cases z)).trans f48
  have f61 : h52 a12 = some (mh_Ni 12) := (S54.kept n_a12_q41 (by rw [f49]; exact fun z => by cases z)).trans f49
  have f62 : h52 q24 = some (mh_Ni 90000) := (S54.kept n_q24_q41 (by rw [f50]; exact fun z => by cases z)).trans f50
  have n63 : a55 ≠ o := fun z => by have w := (S54.2.1 a55 (by simp)).1; rw [z, ob47] at w; cases w
  refine mh_putF cx wd hin (ci := 2) (k := 2) (C := RX2) (T := TX2) (N := 5) (ty0 := tyX2) (ty := (.object RX0)) ob59 rfl (by decide) uw_X2 (mh_in 166 (by decide +kernel) (by decide +kernel)) tyX2_ok nmX2 rfl rfl (by decide +kernel) rfl rfl (Nat.le_of_ble_eq_true rfl) dX2_init_31 (fun H locs wd => ?_)
  obtain ⟨h64, eh65⟩ : ∃ x, x = mh_up h52 o (.inr (2, [.ref q1, .ref q24, .ref q41, .int 0, .int 0])) := ⟨_, rfl⟩
  have wd : mh_W D ks L (mh_A L0 s.heap.size) s.heap h64 H locs := by rw [eh65]; exact wd
  have R66 : mh_Rg h o h64 [q1, a12, q24, q41, a55] := by rw [eh65]; exact R58.set
  have ob67 : h64 o = some (.inr (2, [.ref q1, .ref q24, .ref q41, .int 0, .int 0])) := by rw [eh65]; exact mh_up_eq _ _ _
  have f68 : h64 q1 = some (.inr (1, [.ref a12, .int 0])) := by rw [eh65, mh_up_ne n6]; exact f60
  have f69 : h64 a12 = some (mh_Ni 12) := by rw [eh65, mh_up_ne n17]; exact f61
  have f70 : h64 q24 = some (mh_Ni 90000) := by rw [eh65, mh_up_ne n29]; exact f62
  have f71 : h64 q41 = some (.inr (0, [.ref a55, .int 1])) := by rw [eh65, mh_up_ne n46]; exact f56
  have f72 : h64 a55 = some (mh_Ni 300) := by rw [eh65, mh_up_ne n63]; exact f57
  refine lv_aload_n hx hb dX2_init_34 rfl (lv_at hl 0 rfl) ?_
  refine lv_iconst (v := 0) hx hb dX2_init_35 (by decide) ?_
  refine mh_putN (k := 3) cx wd ob67 (Nat.le_of_ble_eq_true rfl)  fp_X2_30 dX2_init_36 (fun H locs wd => ?_)
  obtain ⟨h73, eh74⟩ : ∃ x, x = mh_up h64 o (.inr (2, [.ref q1, .ref q24, .ref q41, .int 0, .int 0])) := ⟨_, rfl⟩
  have wd : mh_W D ks L (mh_A L0 s.heap.size) s.heap h73 H locs := by rw [eh74]; exact wd
  have R75 : mh_Rg h o h73 [q1, a12, q24, q41, a55] := by rw [eh74]; exact R66.set
  have ob76 : h73 o = some (.inr (2, [.ref q1, .ref q24, .ref q41, .int 0, .int 0])) := by rw [eh74]; exact mh_up_eq _ _ _
  have f77 : h73 q1 = some (.inr (1, [.ref a12, .int 0])) := by rw [eh74, mh_up_ne n6]; exact f68
  have f78 : h73 a12 = some (mh_Ni 12) := by rw [eh74, mh_up_ne n17]; exact f69
  have f79 : h73 q24 = some (mh_Ni 90000) := by rw [eh74, mh_up_ne n29]; exact f70
  have f80 : h73 q41 = some (.inr (0, [.ref a55, .int 1])) := by rw [eh74, mh_up_ne n46]; exact f71
  have f81 : h73 a55 = some (mh_Ni 300) := by rw [eh74, mh_up_ne n63]; exact f72
  refine lv_aload_n hx hb dX2_init_39 rfl (lv_at hl 0 rfl) ?_
  refine lv_iconst (v := 0) hx hb dX2_init_40 (by decide) ?_
  refine mh_putB (k := 4) cx wd ob76 (Nat.le_of_ble_eq_true rfl) (by decide) fp_X2_34 dX2_init_41 (fun H locs wd => ?_)
  obtain ⟨h82, eh83⟩ : ∃ x, x = mh_up h73 o (.inr (2, [.ref q1, .ref q24, .ref q41, .int 0, .int 0])) := ⟨_, rfl⟩
  have wd : mh_W D ks L (mh_A L0 s.heap.size) s.heap h82 H locs := by rw [eh83]; exact wd
  have R84 : mh_Rg h o h82 [q1, a12, q24, q41, a55] := by rw [eh83]; exact R75.set
  have ob85 : h82 o = some (.inr (2, [.ref q1, .ref q24, .ref q41, .int 0, .int 0])) := by rw [eh83]; exact mh_up_eq _ _ _
  have f86 : h82 q1 = some (.inr (1, [.ref a12, .int 0])) := by rw [eh83, mh_up_ne n6]; exact f77
  have f87 : h82 a12 = some (mh_Ni 12) := by rw [eh83, mh_up_ne n17]; exact f78
  have f88 : h82 q24 = some (mh_Ni 90000) := by rw [eh83, mh_up_ne n29]; exact f79
  have f89 : h82 q41 = some (.inr (0, [.ref a55, .int 1])) := by rw [eh83, mh_up_ne n46]; exact f80
  have f90 : h82 a55 = some (mh_Ni 300) := by rw [eh83, mh_up_ne n63]; exact f81
  exact mh_cret cx wd hr ⟨q1, a12, q24, q41, a55, R84, ob85, f86, f87, f88, f89, f90⟩ dX2_init_44 ⟨Nat.le_of_ble_eq_true rfl, Nat.le_of_ble_eq_true rfl⟩
