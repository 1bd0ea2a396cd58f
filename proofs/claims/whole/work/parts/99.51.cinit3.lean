theorem mh_rws_ne {h : mh_H} {q b N : Nat} {e z : mh_E} {rf : Nat → Nat} (h1 : b ≠ q) (h2 : ∀ i, i < N → b ≠ rf i) : mh_rws h q e ((List.range N).map rf) z b = h b := by
  unfold mh_rws
  rw [if_neg h1, if_neg (fun w => by
    obtain ⟨i, i1, i2⟩ := List.mem_map.mp w
    exact h2 i (List.mem_range.mp i1) i2.symm)]
theorem mh_rws_in {h : mh_H} {q i N : Nat} {e z : mh_E} {rf : Nat → Nat} (h1 : rf i ≠ q) (hi : i < N) : mh_rws h q e ((List.range N).map rf) z (rf i) = some z := by
  unfold mh_rws
  rw [if_neg h1, if_pos (List.mem_map.mpr ⟨i, List.mem_range.mpr hi, rfl⟩)]
theorem mh_inI (K : Nat) (c : ClassId) : Jvm.Free.Multi.innerC c K (defaultValue .int) = vp_cell c (K, .inl (fun _ => 0)) := by
  show ({ cls := c, slots := Array.replicate K (.int 0), vm := .none } : Cell) = _
  rw [arrV_new]
  rfl
theorem mh_inJ (K : Nat) (c : ClassId) : Jvm.Free.Multi.innerC c K (defaultValue .long) = vp_cell c (K, .inr (.inl (fun _ => 0))) := by
  show ({ cls := c, slots := Array.replicate K (.long 0), vm := .none } : Cell) = _
  rw [arrV_new]
  rfl

def mh_qX10 (h : mh_H) (o : Nat) (h' : mh_H) : Prop := ∃ (b0 : Nat) (b1 : Nat) (b2 : Nat) (b3 : Nat → Nat), mh_Rg h o h' ((([] ++ [b0]) ++ ([] ++ [b1])) ++ b2 :: (List.range 13).map b3) ∧ h' o = some (.inr (10, [.ref b0, .ref b2, .int (-1)])) ∧ (h' b0 = some (.inr (1, [.ref b1, .int 0]))) ∧ (h' b1 = some (mh_Ni 12)) ∧ (h' b2 = some (.inl (6, 13, .inr (.inr (.inr (.inr (fun i => if i < 13 then some (b3 i) else none))))))) ∧ (∀ i, i < 13 → h' (b3 i) = some (.inl (1, (3001, .inr (.inl (fun _ => 0))))))
set_option maxRecDepth 100000 in
set_option maxHeartbeats 4000000 in
theorem c_X10_init {l : Launch} {L0 : List Nat} {h : mh_H} {o : Nat} (ho : h o = some (.inr (10, [.null, .null, .int 0]))) : mh_Mc l yX10_init (Cond.code yX10_init cX10_init 1 none :: mh_TB) (mh_rn 2 16 39040) o L0 h (mh_qX10 h o) 16 39040 := by
  refine mh_ofC (by decide) rfl (Nat.le_of_ble_eq_true rfl) (fun p e s m below meth c D ks ls hr hin ao cx wd hl => ?_)
  have hx := cx.1.1
  have hb := cx.1.2.1
  have R0 : mh_Rg h o h [] := mh_Rg.nil (by rw [ho]; exact fun z => by cases z)
  refine lv_aload_n hx hb dX10_init_0 rfl (lv_at hl 0 rfl) ?_
  refine mh_obj cx (mh_in 218 (by decide +kernel) (by decide +kernel)) wo_inst wo_code hl.1 dX10_init_1 ⟨Nat.le_of_ble_eq_true rfl, Nat.le_of_ble_eq_true rfl⟩ ?_
  refine lv_aload_n hx hb dX10_init_4 rfl (lv_at hl 0 rfl) ?_
  refine mh_new cx wd (C := RX1) (T := TX1) (N := 2) (ci := 1) tyX1 [.null, .int 0] rfl uw_X1 tyX1_ok (mh_in 219 (by decide +kernel) (by decide +kernel)) (mh_in 99 (by decide +kernel) (by decide +kernel)) (mh_in 63 (by decide +kernel) (by decide +kernel)) (fun j hj => by rcases (show j = 0 ∨ j = 1 by omega) with rfl | rfl <;> rfl) (Nat.le_of_ble_eq_true rfl) (Nat.le_of_ble_eq_true rfl) dX10_init_5 (fun q1 L H e2 wd => ?_)
  obtain ⟨h3, eh4⟩ : ∃ x, x = mh_up h q1 (.inr (1, [.null, .int 0])) := ⟨_, rfl⟩
  rw [← eh4] at wd
  have R5 : mh_Rg h o h3 ([] ++ [q1]) := by rw [eh4]; exact R0.add e2
  have n6 : q1 ≠ o := fun z => by rw [z, ho] at e2; cases e2
  have ob7 : h3 o = some (.inr (10, [.null, .null, .int 0])) := by rw [eh4, mh_up_ne (fun z => n6 z.symm)]; exact ho
  have f8 : h3 q1 = some (.inr (1, [.null, .int 0])) := by rw [eh4]; exact mh_up_eq _ _ _
  refine lv_dup hx hb dX10_init_8 rfl ?_
  refine mh_callC (host := "MintHouse") cx ao wd yw_X1_init rfl (mh_nin 220 (by decide +kernel) (by decide +kernel)) (mh_in 101 (by decide +kernel) (by decide +kernel)) hl.1 (Nat.le_of_ble_eq_true rfl) dX10_init_9 ⟨Nat.le_of_ble_eq_true rfl, Nat.le_of_ble_eq_true rfl⟩ ⟨Nat.le_of_ble_eq_true rfl, Nat.le_of_ble_eq_true rfl⟩ (c_X1_inq f8) (fun L h9 H locs hp10 wd => ?_)
  obtain ⟨a12, S11, f13, f14⟩ := hp10
  have R15 : mh_Rg h o h9 (([] ++ [q1]) ++ ([] ++ [a12])) := R5.call (q := q1) (by simp) S11
  have ob16 : h9 o = some (.inr (10, [.null, .null, .int 0])) := (S11.kept (fun z => n6 z.symm) (by rw [ob7]; exact fun z => by cases z)).trans ob7
  have n17 : a12 ≠ o := fun z => by have w := (S11.2.1 a12 (by simp)).1; rw [z, ob7] at w; cases w
  refine mh_putF cx wd hin (ci := 10) (k := 0) (C := RX10) (T := TX10) (N := 3) (ty0 := tyX10) (ty := (.object RX1)) ob16 rfl (by decide) uw_X10 (mh_in 223 (by decide +kernel) (by decide +kernel)) tyX10_ok nmX10 rfl rfl (by decide +kernel) rfl rfl (Nat.le_of_ble_eq_true rfl) dX10_init_12 (fun H locs wd => ?_)
  obtain ⟨h18, eh19⟩ : ∃ x, x = mh_up h9 o (.inr (10, [.ref q1, .null, .int 0])) := ⟨_, rfl⟩
  have wd : mh_W D ks L (mh_A L0 s.heap.size) s.heap h18 H locs := by rw [eh19]; exact wd
  have R20 : mh_Rg h o h18 (([] ++ [q1]) ++ ([] ++ [a12])) := by rw [eh19]; exact R15.set
  have ob21 : h18 o = some (.inr (10, [.ref q1, .null, .int 0])) := by rw [eh19]; exact mh_up_eq _ _ _
  have f22 : h18 q1 = some (.inr (1, [.ref a12, .int 0])) := by rw [eh19, mh_up_ne n6]; exact f13
  have f23 : h18 a12 = some (mh_Ni 12) := by rw [eh19, mh_up_ne n17]; exact f14
  refine lv_aload_n hx hb dX10_init_15 rfl (lv_at hl 0 rfl) ?_
  refine lv_bipush (v := 13) hx hb dX10_init_16 (by decide) ?_
  refine lv_sipush (v := 3001) hx hb dX10_init_18 (by decide) ?_
  refine mh_nwm cx wd 6 1 (ty := .long) (N' := 13) (K' := 3001) (z := (3001, .inr (.inl (fun _ => 0)))) rfl (cx.2.1.2 1 _ rfl).2 ao.2.2.2 (mh_in 221 (by decide +kernel) (by decide +kernel)) wo_long (by decide) (by decide) rfl rfl (by decide) (by decide) (by decide) rfl rfl (Nat.le_of_ble_eq_true rfl) (Nat.le_of_ble_eq_true rfl) (mh_inJ 3001) dX10_init_21 (fun q24 a25 L H e26 e27 e28 wd => ?_)
  obtain ⟨h29, eh30⟩ : ∃ x, x = mh_rws h18 q24 (.inl (6, 13, .inr (.inr (.inr (.inr (fun i => if i < 13 then some (a25 i) else none)))))) ((List.range 13).map a25) (.inl (1, (3001, .inr (.inl (fun _ => 0))))) := ⟨_, rfl⟩
  rw [← eh30] at wd
  have R31 : mh_Rg h o h29 ((([] ++ [q1]) ++ ([] ++ [a12])) ++ q24 :: (List.range 13).map a25) := by rw [eh30]; exact R20.rows e26 e27 e28
  have n32 : q24 ≠ o := fun z => by rw [z, ob21] at e26; cases e26
  have n33 : ∀ i, i < 13 → a25 i ≠ o := fun i hi z => by have w := (e27 i hi).1; rw [z, ob21] at w; cases w
  have k34 : ∀ b, h18 b ≠ none → h29 b = h18 b := fun b hb => by rw [eh30]; exact mh_rws_ne (fun z => hb (by rw [z]; exact e26)) (fun i hi z => hb (by rw [z]; exact (e27 i hi).1))
  have ob35 : h29 o = some (.inr (10, [.ref q1, .null, .int 0])) := (k34 o (by rw [ob21]; exact fun z => by cases z)).trans ob21
  have f36 : h29 q1 = some (.inr (1, [.ref a12, .int 0])) := (k34 _ (by rw [f22]; exact fun z => by cases z)).trans f22
  have f37 : h29 a12 = some (mh_Ni 12) := (k34 _ (by rw [f23]; exact fun z => by cases z)).trans f23
  have f38 : h29 q24 = some (.inl (6, 13, .inr (.inr (.inr (.inr (fun i => if i < 13 then some (a25 i) else none)))))) := by rw [eh30]; exact if_pos rfl
  have f39 : ∀ i, i < 13 → h29 (a25 i) = some (.inl (1, (3001, .inr (.inl (fun _ => 0))))) := fun i hi => by rw [eh30]; exact mh_rws_in (e27 i hi).2 hi
  refine mh_putF cx wd hin (ci := 10) (k := 1) (C := RX10) (T := TX10) (N := 3) (ty0 := tyX10) (ty := (.array (.array .long))) ob35 rfl (by decide) uw_X10 (mh_in 224 (by decide +kernel) (by decide +kernel)) tyX10_ok nmX10 rfl rfl (by decide +kernel) rfl rfl (Nat.le_of_ble_eq_true rfl) dX10_init_25 (fun H locs wd => ?_)
  obtain ⟨h40, eh41⟩ : ∃ x, x = mh_up h29 o (.inr (10, [.ref q1, .ref q24, .int 0])) := ⟨_, rfl⟩
  have wd : mh_W D ks L (mh_A L0 s.heap.size) s.heap h40 H locs := by rw [eh41]; exact wd
  have R42 : mh_Rg h o h40 ((([] ++ [q1]) ++ ([] ++ [a12])) ++ q24 :: (List.range 13).map a25) := by rw [eh41]; exact R31.set
  have ob43 : h40 o = some (.inr (10, [.ref q1, .ref q24, .int 0])) := by rw [eh41]; exact mh_up_eq _ _ _
  have f44 : h40 q1 = some (.inr (1, [.ref a12, .int 0])) := by rw [eh41, mh_up_ne n6]; exact f36
  have f45 : h40 a12 = some (mh_Ni 12) := by rw [eh41, mh_up_ne n17]; exact f37
  have f46 : h40 q24 = some (.inl (6, 13, .inr (.inr (.inr (.inr (fun i => if i < 13 then some (a25 i) else none)))))) := by rw [eh41, mh_up_ne n32]; exact f38
  have f47 : ∀ i, i < 13 → h40 (a25 i) = some (.inl (1, (3001, .inr (.inl (fun _ => 0))))) := fun i hi => by rw [eh41, mh_up_ne (n33 i hi)]; exact f39 i hi
  refine lv_aload_n hx hb dX10_init_28 rfl (lv_at hl 0 rfl) ?_
  refine lv_iconst (v := (-1)) hx hb dX10_init_29 (by decide) ?_
  refine mh_putN (k := 2) cx wd ob43 (Nat.le_of_ble_eq_true rfl)  fp_X10_23 dX10_init_30 (fun H locs wd => ?_)
  obtain ⟨h48, eh49⟩ : ∃ x, x = mh_up h40 o (.inr (10, [.ref q1, .ref q24, .int (-1)])) := ⟨_, rfl⟩
  have wd : mh_W D ks L (mh_A L0 s.heap.size) s.heap h48 H locs := by rw [eh49]; exact wd
  have R50 : mh_Rg h o h48 ((([] ++ [q1]) ++ ([] ++ [a12])) ++ q24 :: (List.range 13).map a25) := by rw [eh49]; exact R42.set
  have ob51 : h48 o = some (.inr (10, [.ref q1, .ref q24, .int (-1)])) := by rw [eh49]; exact mh_up_eq _ _ _
  have f52 : h48 q1 = some (.inr (1, [.ref a12, .int 0])) := by rw [eh49, mh_up_ne n6]; exact f44
  have f53 : h48 a12 = some (mh_Ni 12) := by rw [eh49, mh_up_ne n17]; exact f45
  have f54 : h48 q24 = some (.inl (6, 13, .inr (.inr (.inr (.inr (fun i => if i < 13 then some (a25 i) else none)))))) := by rw [eh49, mh_up_ne n32]; exact f46
  have f55 : ∀ i, i < 13 → h48 (a25 i) = some (.inl (1, (3001, .inr (.inl (fun _ => 0))))) := fun i hi => by rw [eh49, mh_up_ne (n33 i hi)]; exact f47 i hi
  exact mh_cret cx wd hr ⟨q1, a12, q24, a25, R50, ob51, f52, f53, f54, f55⟩ dX10_init_33 ⟨Nat.le_of_ble_eq_true rfl, Nat.le_of_ble_eq_true rfl⟩
def mh_qX6 (h : mh_H) (o : Nat) (h' : mh_H) : Prop := ∃ (b0 : Nat) (b1 : Nat → Nat) (b2 : Nat) (b3 : Nat) (b4 : Nat) (b5 : Nat) (b6 : Nat) (b7 : Nat), mh_Rg h o h' ((((([] ++ b0 :: (List.range 200).map b1) ++ [b2]) ++ [b3]) ++ [b4]) ++ ((([] ++ [b5]) ++ ([] ++ [b6])) ++ [b7])) ∧ h' o = some (.inr (6, [.ref b0, .ref b2, .ref b3, .ref b4, .int 0])) ∧ (h' b0 = some (.inl (5, 200, .inr (.inr (.inr (.inr (fun i => if i < 200 then some (b1 i) else none))))))) ∧ (∀ i, i < 200 → h' (b1 i) = some (.inl (0, (12, .inl (fun _ => 0))))) ∧ (h' b2 = some (mh_Ni 200)) ∧ (h' b3 = some (mh_Nz 200)) ∧ (h' b4 = some (.inr (7, [.ref b5, .ref b7]))) ∧ (h' b5 = some (.inr (1, [.ref b6, .int 0]))) ∧ (h' b6 = some (mh_Ni 12)) ∧ (h' b7 = some (mh_Ni 12))
set_option maxRecDepth 100000 in
set_option maxHeartbeats 4000000 in
theorem c_X6_init {l : Launch} {L0 : List Nat} {h : mh_H} {o : Nat} (ho : h o = some (.inr (6, [.null, .null, .null, .null, .int 0]))) : mh_Mc l yX6_init (Cond.code yX6_init cX6_init 1 none :: mh_TB) (mh_rn 3 207 3028) o L0 h (mh_qX6 h o) 207 3028 := by
  refine mh_ofC (by decide) rfl (Nat.le_of_ble_eq_true rfl) (fun p e s m below meth c D ks ls hr hin ao cx wd hl => ?_)
  have hx := cx.1.1
  have hb := cx.1.2.1
  have R0 : mh_Rg h o h [] := mh_Rg.nil (by rw [ho]; exact fun z => by cases z)
  refine lv_aload_n hx hb dX6_init_0 rfl (lv_at hl 0 rfl) ?_
  refine mh_obj cx (mh_in 239 (by decide +kernel) (by decide +kernel)) wo_inst wo_code hl.1 dX6_init_1 ⟨Nat.le_of_ble_eq_true rfl, Nat.le_of_ble_eq_true rfl⟩ ?_
  refine lv_aload_n hx hb dX6_init_4 rfl (lv_at hl 0 rfl) ?_
  refine lv_sipush (v := 200) hx hb dX6_init_5 (by decide) ?_
  refine lv_bipush (v := 12) hx hb dX6_init_8 (by decide) ?_
  refine mh_nwm cx wd 5 0 (ty := .int) (N' := 200) (K' := 12) (z := (12, .inl (fun _ => 0))) rfl (cx.2.1.2 0 _ rfl).2 ao.2.2.1 (mh_in 240 (by decide +kernel) (by decide +kernel)) wo_int (by decide) (by decide) rfl rfl (by decide) (by decide) (by decide) rfl rfl (Nat.le_of_ble_eq_true rfl) (Nat.le_of_ble_eq_true rfl) (mh_inI 12) dX6_init_10 (fun q1 a2 L H e3 e4 e5 wd => ?_)
  obtain ⟨h6, eh7⟩ : ∃ x, x = mh_rws h q1 (.inl (5, 200, .inr (.inr (.inr (.inr (fun i => if i < 200 then some (a2 i) else none)))))) ((List.range 200).map a2) (.inl (0, (12, .inl (fun _ => 0)))) := ⟨_, rfl⟩
  rw [← eh7] at wd
  have R8 : mh_Rg h o h6 ([] ++ q1 :: (List.range 200).map a2) := by rw [eh7]; exact R0.rows e3 e4 e5
  have n9 : q1 ≠ o := fun z => by rw [z, ho] at e3; cases e3
  have n10 : ∀ i, i < 200 → a2 i ≠ o := fun i hi z => by have w := (e4 i hi).1; rw [z, ho] at w; cases w
  have k11 : ∀ b, h b ≠ none → h6 b = h b := fun b hb => by rw [eh7]; exact mh_rws_ne (fun z => hb (by rw [z]; exact e3)) (fun i hi z => hb (by rw [z]; exact (e4 i hi).1))
  have ob12 : h6 o = some (.inr (6, [.null, .null, .null, .null, .int 0])) := (k11 o (by rw [ho]; exact fun z => by cases z)).trans ho
  have f13 : h6 q1 = some (.inl (5, 200, .inr (.inr (.inr (.inr (fun i => if i < 200 then some (a2 i) else none)))))) := by rw [eh7]; exact if_pos rfl
  have f14 : ∀ i, i < 200 → h6 (a2 i) = some (.inl (0, (12, .inl (fun _ => 0)))) := fun i hi => by rw [eh7]; exact mh_rws_in (e4 i hi).2 hi
  refine mh_putF cx wd hin (ci := 6) (k := 0) (C := RX6) (T := TX6) (N := 5) (ty0 := tyX6) (ty := (.array (.array .int))) ob12 rfl (by decide) uw_X6 (mh_in 244 (by decide +kernel) (by decide +kernel)) tyX6_ok nmX6 rfl rfl (by decide +kernel) rfl rfl (Nat.le_of_ble_eq_true rfl) dX6_init_14 (fun H locs wd => ?_)
  obtain ⟨h15, eh16⟩ : ∃ x, x = mh_up h6 o (.inr (6, [.ref q1, .null, .null, .null, .int 0])) := ⟨_, rfl⟩
  have wd : mh_W D ks L (mh_A L0 s.heap.size) s.heap h15 H locs := by rw [eh16]; exact wd
  have R17 : mh_Rg h o h15 ([] ++ q1 :: (List.range 200).map a2) := by rw [eh16]; exact R8.set
  have ob18 : h15 o = some (.inr (6, [.ref q1, .null, .null, .null, .int 0])) := by rw [eh16]; exact mh_up_eq _ _ _
  have f19 : h15 q1 = some (.inl (5, 200, .inr (.inr (.inr (.inr (fun i => if i < 200 then some (a2 i) else none)))))) := by rw [eh16, mh_up_ne n9]; exact f13
  have f20 : ∀ i, i < 200 → h15 (a2 i) = some (.inl (0, (12, .inl (fun _ => 0)))) := fun i hi => by rw [eh16, mh_up_ne (n10 i hi)]; exact f14 i hi
  refine lv_aload_n hx hb dX6_init_17 rfl (lv_at hl 0 rfl) ?_
  refine lv_sipush (v := 200) hx hb dX6_init_18 (by decide) ?_
  refine mh_nwi (N' := 200) cx wd wo_int (by decide) rfl (by decide) (Nat.le_of_ble_eq_true rfl) (Nat.le_of_ble_eq_true rfl) dX6_init_21 (fun q21 L H e22 wd => ?_)
  obtain ⟨h23, eh24⟩ : ∃ x, x = mh_up h15 q21 (mh_Ni 200) := ⟨_, rfl⟩
  rw [← eh24] at wd
  have R25 : mh_Rg h o h23 (([] ++ q1 :: (List.range 200).map a2) ++ [q21]) := by rw [eh24]; exact R17.add e22
  have n26 : q21 ≠ o := fun z => by rw [z, ob18] at e22; cases e22
  have ob27 : h23 o = some (.inr (6, [.ref q1, .null, .null, .null, .int 0])) := by rw [eh24, mh_up_ne (fun z => n26 z.symm)]; exact ob18
  have n_q1_q21 : q1 ≠ q21 := fun z => by rw [z, e22] at f19; cases f19
  have f28 : h23 q1 = some (.inl (5, 200, .inr (.inr (.inr (.inr (fun i => if i < 200 then some (a2 i) else none)))))) := by rw [eh24, mh_up_ne n_q1_q21]; exact f19
  have n_a2_q21 : ∀ i, i < 200 → a2 i ≠ q21 := fun i hi z => by have w := f20 i hi; rw [z, e22] at w; cases w
  have f29 : ∀ i, i < 200 → h23 (a2 i) = some (.inl (0, (12, .inl (fun _ => 0)))) := fun i hi => by rw [eh24, mh_up_ne (n_a2_q21 i hi)]; exact f20 i hi
  have f30 : h23 q21 = some (mh_Ni 200) := by rw [eh24]; exact mh_up_eq _ _ _
  refine mh_putF cx wd hin (ci := 6) (k := 1) (C := RX6) (T := TX6) (N := 5) (ty0 := tyX6) (ty := (.array .int)) ob27 rfl (by decide) uw_X6 (mh_in 245 (by decide +kernel) (by decide +kernel)) tyX6_ok nmX6 rfl rfl (by decide +kernel) rfl rfl (Nat.le_of_ble_eq_true rfl) dX6_init_23 (fun H locs wd => ?_)
  obtain ⟨h31, eh32⟩ : ∃ x, x = mh_up h23 o (.inr (6, [.ref q1, .ref q21, .null, .null, .int 0])) := ⟨_, rfl⟩
  have wd : mh_W D ks L (mh_A L0 s.heap.size) s.heap h31 H locs := by rw [eh32]; exact wd
  have R33 : mh_Rg h o h31 (([] ++ q1 :: (List.range 200).map a2) ++ [q21]) := by rw [eh32]; exact R25.set
  have ob34 : h31 o = some (.inr (6, [.ref q1, .ref q21, .null, .null, .int 0])) := by rw [eh32]; exact mh_up_eq _ _ _
  have f35 : h31 q1 = some (.inl (5, 200, .inr (.inr (.inr (.inr (fun i => if i < 200 then some (a2 i) else none)))))) := by rw [eh32, mh_up_ne n9]; exact f28
  have f36 : ∀ i, i < 200 → h31 (a2 i) = some (.inl (0, (12, .inl (fun _ => 0)))) := fun i hi => by rw [eh32, mh_up_ne (n10 i hi)]; exact f29 i hi
  have f37 : h31 q21 = some (mh_Ni 200) := by rw [eh32, mh_up_ne n26]; exact f30
  refine lv_aload_n hx hb dX6_init_26 rfl (lv_at hl 0 rfl) ?_
  refine lv_sipush (v := 200) hx hb dX6_init_27 (by decide) ?_
  refine mh_nwz (N' := 200) cx wd wo_boolean (by decide) rfl (by decide) (Nat.le_of_ble_eq_true rfl) (Nat.le_of_ble_eq_true rfl) dX6_init_30 (fun q38 L H e39 wd => ?_)
  obtain ⟨h40, eh41⟩ : ∃ x, x = mh_up h31 q38 (mh_Nz 200) := ⟨_, rfl⟩
  rw [← eh41] at wd
  have R42 : mh_Rg h o h40 ((([] ++ q1 :: (List.range 200).map a2) ++ [q21]) ++ [q38]) := by rw [eh41]; exact R33.add e39
  have n43 : q38 ≠ o := fun z => by rw [z, ob34] at e39; cases e39
  have ob44 : h40 o = some (.inr (6, [.ref q1, .ref q21, .null, .null, .int 0])) := by rw [eh41, mh_up_ne (fun z => n43 z.symm)]; exact ob34
  have n_q1_q38 : q1 ≠ q38 := fun z => by rw [z, e39] at f35; cases f35
  have f45 : h40 q1 = some (.inl (5, 200, .inr (.inr (.inr (.inr (fun i => if i < 200 then some (a2 i) else none)))))) := by rw [eh41, mh_up_ne n_q1_q38]; exact f35
  have n_a2_q38 : ∀ i, i < 200 → a2 i ≠ q38 := fun i hi z => by have w := f36 i hi; rw [z, e39] at w; cases w
  have f46 : ∀ i, i < 200 → h40 (a2 i) = some (.inl (0, (12, .inl (fun _ => 0)))) := fun i hi => by rw [eh41, mh_up_ne (n_a2_q38 i hi)]; exact f36 i hi
  have n_q21_q38 : q21 ≠ q38 := fun z => by rw [z, e39] at f37; cases f37
  have f47 : h40 q21 = some (mh_Ni 200) := by rw [eh41, mh_up_ne n_q21_q38]; exact f37
  have f48 : h40 q38 = some (mh_Nz 200) := by rw [eh41]; exact mh_up_eq _ _ _
  refine mh_putF cx wd hin (ci := 6) (k := 2) (C := RX6) (T := TX6) (N := 5) (ty0 := tyX6) (ty := (.array .boolean)) ob44 rfl (by decide) uw_X6 (mh_in 246 (by decide +kernel) (by decide +kernel)) tyX6_ok nmX6 rfl rfl (by decide +kernel) rfl rfl (Nat.le_of_ble_eq_true rfl) dX6_init_32 (fun H locs wd => ?_)
  obtain ⟨h49, eh50⟩ : ∃ x, x = mh_up h40 o (.inr (6, [.ref q1, .ref q21, .ref q38, .null, .int 0])) := ⟨_, rfl⟩
  have wd : mh_W D ks L (mh_A L0 s.heap.size) s.heap h49 H locs := by rw [eh50]; exact wd
  have R51 : mh_Rg h o h49 ((([] ++ q1 :: (List.range 200).map a2) ++ [q21]) ++ [q38]) := by rw [eh50]; exact R42.set
  have ob52 : h49 o = some (.inr (6, [.ref q1, .ref q21, .ref q38, .null, .int 0])) := by rw [eh50]; exact mh_up_eq _ _ _
  have f53 : h49 q1 = some (.inl (5, 200, .inr (.inr (.inr (.inr (fun i => if i < 200 then some (a2 i) else none)))))) := by rw [eh50, mh_up_ne n9]; exact f45
  have f54 : ∀ i, i < 200 → h49 (a2 i) = some (.inl (0, (12, .inl (fun _ => 0)))) := fun i hi => by rw [eh50, mh_up_ne (n10 i hi)]; exact f46 i hi
  have f55 : h49 q21 = some (mh_Ni 200) := by rw [eh50, mh_up_ne n26]; exact f47
  have f56 : h49 q38 = some (mh_Nz 200) := by rw [eh50, mh_up_ne n43]; exact f48
  refine lv_aload_n hx hb dX6_init_35 rfl (lv_at hl 0 rfl) ?_
  refine mh_new cx wd (C := RX7) (T := TX7) (N := 2) (ci := 7) tyX7 [.null, .null] rfl uw_X7 tyX7_ok (mh_in 242 (by decide +kernel) (by decide +kernel)) (mh_in 112 (by decide +kernel) (by decide +kernel)) (mh_in 64 (by decide +kernel) (by decide +kernel)) (fun j hj => by rcases (show j = 0 ∨ j = 1 by omega) with rfl | rfl <;> rfl) (Nat.le_of_ble_eq_true rfl) (Nat.le_of_ble_eq_true rfl) dX6_init_36 (fun q57 L H e58 wd => ?_)
  obtain ⟨h59, eh60⟩ : ∃ x, x = mh_up h49 q57 (.inr (7, [.null, .null])) := ⟨_, rfl⟩
  rw [← eh60] at wd
  have R61 : mh_Rg h o h59 (((([] ++ q1 :: (List.range 200).map a2) ++ [q21]) ++ [q38]) ++ [q57]) := by rw [eh60]; exact R51.add e58
  have n62 : q57 ≠ o := fun z => by rw [z, ob52] at e58; cases e58
  have ob63 : h59 o = some (.inr (6, [.ref q1, .ref q21, .ref q38, .null, .int 0])) := by rw [eh60, mh_up_ne (fun z => n62 z.symm)]; exact ob52
  have n_q1_q57 : q1 ≠ q57 := fun z => by rw [z, e58] at f53; cases f53
  have f64 : h59 q1 = some (.inl (5, 200, .inr (.inr (.inr (.inr (fun i => if i < 200 then some (a2 i) else none)))))) := by rw [eh60, mh_up_ne n_q1_q57]; exact f53
  have n_a2_q57 : ∀ i, i < 200 → a2 i ≠ q57 := fun i hi z => by have w := f54 i hi; rw [z, e58] at w; cases w
  have f65 : ∀ i, i < 200 → h59 (a2 i) = some (.inl (0, (12, .inl (fun _ => 0)))) := fun i hi => by rw [eh60, mh_up_ne (n_a2_q57 i hi)]; exact f54 i hi
  have n_q21_q57 : q21 ≠ q57 := fun z => by rw [z, e58] at f55; cases f55
  have f66 : h59 q21 = some (mh_Ni 200) := by rw [eh60, mh_up_ne n_q21_q57]; exact f55
  have n_q38_q57 : q38 ≠ q57 := fun z => by rw [z, e58] at f56; cases f56
  have f67 : h59 q38 = some (mh_Nz 200) := by rw [eh60, mh_up_ne n_q38_q57]; exact f56
  have f68 : h59 q57 = some (.inr (7, [.null, .null])) := by rw [eh60]; exact mh_up_eq _ _ _
  refine lv_dup hx hb dX6_init_39 rfl ?_
  refine mh_callC (host := "MintHouse") cx ao wd yw_X7_init rfl (mh_nin 243 (by decide +kernel) (by decide +kernel)) (mh_in 114 (by decide +kernel) (by decide +kernel)) hl.1 (Nat.le_of_ble_eq_true rfl) dX6_init_40 ⟨Nat.le_of_ble_eq_true rfl, Nat.le_of_ble_eq_true rfl⟩ ⟨Nat.le_of_ble_eq_true rfl, Nat.le_of_ble_eq_true rfl⟩ (c_X7_init f68) (fun L h69 H locs hp70 wd => ?_)
  obtain ⟨a72, a73, a74, S71, f75, f76, f77, f78⟩ := hp70
  have R79 : mh_Rg h o h69 ((((([] ++ q1 :: (List.range 200).map a2) ++ [q21]) ++ [q38]) ++ [q57]) ++ ((([] ++ [a72]) ++ ([] ++ [a73])) ++ [a74])) := R61.call (q := q57) (by simp) S71
  have ob80 : h69 o = some (.inr (6, [.ref q1, .ref q21, .ref q38, .null, .int 0])) := (S71.kept (fun z => n62 z.symm) (by rw [ob63]; exact fun z => by cases z)).trans ob63
  have f81 : h69 q1 = some (.inl (5, 200, .inr (.inr (.inr (.inr (fun i => if i < 200 then some (a2 i) else none)))))) := (S71.kept n_q1_q57 (by rw [f64]; exact fun z => by cases z)).trans f64
  have f82 : ∀ i, i < 200 → h69 (a2 i) = some (.inl (0, (12, .inl (fun _ => 0)))) := fun i hi => (S71.kept (n_a2_q57 i hi) (by rw [f65 i hi]; exact fun z => by cases z)).trans (f65 i hi)
  have f83 : h69 q21 = some (mh_Ni 200) := (S71.kept n_q21_q57 (by rw [f66]; exact fun z => by cases z)).trans f66
  have f84 : h69 q38 = some (mh_Nz 200) := (S71.kept n_q38_q57 (by rw [f67]; exact fun z => by cases z)).trans f67
  have n85 : a72 ≠ o := fun z => by have w := (S71.2.1 a72 (by simp)).1; rw [z, ob63] at w; cases w
  have n86 : a73 ≠ o := fun z => by have w := (S71.2.1 a73 (by simp)).1; rw [z, ob63] at w; cases w
  have n87 : a74 ≠ o := fun z => by have w := (S71.2.1 a74 (by simp)).1; rw [z, ob63] at w; cases w
  refine mh_putF cx wd hin (ci := 6) (k := 3) (C := RX6) (T := TX6) (N := 5) (ty0 := tyX6) (ty := (.object RX7)) ob80 rfl (by decide) uw_X6 (mh_in 247 (by decide +kernel) (by decide +kernel)) tyX6_ok nmX6 rfl rfl (by decide +kernel) rfl rfl (Nat.le_of_ble_eq_true rfl) dX6_init_43 (fun H locs wd => ?_)
  obtain ⟨h88, eh89⟩ : ∃ x, x = mh_up h69 o (.inr (6, [.ref q1, .ref q21, .ref q38, .ref q57, .int 0])) := ⟨_, rfl⟩
  have wd : mh_W D ks L (mh_A L0 s.heap.size) s.heap h88 H locs := by rw [eh89]; exact wd
  have R90 : mh_Rg h o h88 ((((([] ++ q1 :: (List.range 200).map a2) ++ [q21]) ++ [q38]) ++ [q57]) ++ ((([] ++ [a72]) ++ ([] ++ [a73])) ++ [a74])) := by rw [eh89]; exact R79.set
  have ob91 : h88 o = some (.inr (6, [.ref q1, .ref q21, .ref q38, .ref q57, .int 0])) := by rw [eh89]; exact mh_up_eq _ _ _
  have f92 : h88 q1 = some (.inl (5, 200, .inr (.inr (.inr (.inr (fun i => if i < 200 then some (a2 i) else none)))))) := by rw [eh89, mh_up_ne n9]; exact f81
  have f93 : ∀ i, i < 200 → h88 (a2 i) = some (.inl (0, (12, .inl (fun _ => 0)))) := fun i hi => by rw [eh89, mh_up_ne (n10 i hi)]; exact f82 i hi
  have f94 : h88 q21 = some (mh_Ni 200) := by rw [eh89, mh_up_ne n26]; exact f83
  have f95 : h88 q38 = some (mh_Nz 200) := by rw [eh89, mh_up_ne n43]; exact f84
  have f96 : h88 q57 = some (.inr (7, [.ref a72, .ref a74])) := by rw [eh89, mh_up_ne n62]; exact f75
  have f97 : h88 a72 = some (.inr (1, [.ref a73, .int 0])) := by rw [eh89, mh_up_ne n85]; exact f76
  have f98 : h88 a73 = some (mh_Ni 12) := by rw [eh89, mh_up_ne n86]; exact f77
  have f99 : h88 a74 = some (mh_Ni 12) := by rw [eh89, mh_up_ne n87]; exact f78
  refine lv_aload_n hx hb dX6_init_46 rfl (lv_at hl 0 rfl) ?_
  refine lv_iconst (v := 0) hx hb dX6_init_47 (by decide) ?_
  refine mh_putN (k := 4) cx wd ob91 (Nat.le_of_ble_eq_true rfl)  fp_X6_31 dX6_init_48 (fun H locs wd => ?_)
  obtain ⟨h100, eh101⟩ : ∃ x, x = mh_up h88 o (.inr (6, [.ref q1, .ref q21, .ref q38, .ref q57, .int 0])) := ⟨_, rfl⟩
  have wd : mh_W D ks L (mh_A L0 s.heap.size) s.heap h100 H locs := by rw [eh101]; exact wd
  have R102 : mh_Rg h o h100 ((((([] ++ q1 :: (List.range 200).map a2) ++ [q21]) ++ [q38]) ++ [q57]) ++ ((([] ++ [a72]) ++ ([] ++ [a73])) ++ [a74])) := by rw [eh101]; exact R90.set
  have ob103 : h100 o = some (.inr (6, [.ref q1, .ref q21, .ref q38, .ref q57, .int 0])) := by rw [eh101]; exact mh_up_eq _ _ _
  have f104 : h100 q1 = some (.inl (5, 200, .inr (.inr (.inr (.inr (fun i => if i < 200 then some (a2 i) else none)))))) := by rw [eh101, mh_up_ne n9]; exact f92
  have f105 : ∀ i, i < 200 → h100 (a2 i) = some (.inl (0, (12, .inl (fun _ => 0)))) := fun i hi => by rw [eh101, mh_up_ne (n10 i hi)]; exact f93 i hi
  have f106 : h100 q21 = some (mh_Ni 200) := by rw [eh101, mh_up_ne n26]; exact f94
  have f107 : h100 q38 = some (mh_Nz 200) := by rw [eh101, mh_up_ne n43]; exact f95
  have f108 : h100 q57 = some (.inr (7, [.ref a72, .ref a74])) := by rw [eh101, mh_up_ne n62]; exact f96
  have f109 : h100 a72 = some (.inr (1, [.ref a73, .int 0])) := by rw [eh101, mh_up_ne n85]; exact f97
  have f110 : h100 a73 = some (mh_Ni 12) := by rw [eh101, mh_up_ne n86]; exact f98
  have f111 : h100 a74 = some (mh_Ni 12) := by rw [eh101, mh_up_ne n87]; exact f99
  exact mh_cret cx wd hr ⟨q1, a2, q21, q38, q57, a72, a73, a74, R102, ob103, f104, f105, f106, f107, f108, f109, f110, f111⟩ dX6_init_51 ⟨Nat.le_of_ble_eq_true rfl, Nat.le_of_ble_eq_true rfl⟩
