
def mh_qX12 (h : mh_H) (o : Nat) (h' : mh_H) : Prop := ∃ (b0 : Nat) (b1 : Nat) (b2 : Nat → Nat) (b3 : Nat) (b4 : Nat) (b5 : Nat → Nat) (b6 : Nat) (b7 : Nat) (b8 : Nat) (b9 : Nat) (b10 : Nat → Nat) (b11 : Nat) (b12 : Nat) (b13 : Nat) (b14 : Nat) (b15 : Nat) (b16 : Nat) (b17 : Nat) (b18 : Nat) (b19 : Nat) (b20 : Nat) (b21 : Nat → Nat) (b22 : Nat) (b23 : Nat → Nat) (b24 : Nat) (b25 : Nat) (b26 : Nat) (b27 : Nat) (b28 : Nat) (b29 : Nat), mh_Rg h o h' ((((((((((((((((((((((((([] ++ [b0]) ++ b1 :: (List.range 21).map b2) ++ [b3]) ++ b4 :: (List.range 13).map b5) ++ [b6]) ++ [b7]) ++ [b8]) ++ b9 :: (List.range 13).map b10) ++ [b11]) ++ [b12]) ++ [b13]) ++ [b14]) ++ [b15]) ++ [b16]) ++ [b17]) ++ [b18]) ++ [b19]) ++ b20 :: (List.range 13).map b21) ++ b22 :: (List.range 13).map b23) ++ [b24]) ++ [b25]) ++ [b26]) ++ [b27]) ++ [b28]) ++ [b29]) ∧ h' o = some (.inr (12, [.int 0, .ref b0, .ref b1, .int 0, .int 0, .int 0, .ref b3, .int (-1), .ref b4, .ref b6, .ref b7, .ref b8, .ref b9, .ref b11, .int 0, .int 0, .int 0, .ref b12, .ref b13, .ref b14, .ref b15, .ref b16, .int 0, .int 0, .ref b17, .ref b18, .int 0, .int 0, .int 0, .ref b19, .ref b20, .ref b22, .ref b24, .ref b25, .ref b26, .ref b27, .ref b28, .ref b29])) ∧ (h' b0 = some (mh_Ni 304)) ∧ (h' b1 = some (.inl (5, 21, .inr (.inr (.inr (.inr (fun i => if i < 21 then some (b2 i) else none))))))) ∧ (∀ i, i < 21 → h' (b2 i) = some (.inl (0, (304, .inl (fun _ => 0))))) ∧ (h' b3 = some (mh_Ni 12)) ∧ (h' b4 = some (.inl (5, 13, .inr (.inr (.inr (.inr (fun i => if i < 13 then some (b5 i) else none))))))) ∧ (∀ i, i < 13 → h' (b5 i) = some (.inl (0, (100301, .inl (fun _ => 0))))) ∧ (h' b6 = some (mh_Nz 200001)) ∧ (h' b7 = some (mh_Nz 200001)) ∧ (h' b8 = some (mh_Nz 200001)) ∧ (h' b9 = some (.inl (6, 13, .inr (.inr (.inr (.inr (fun i => if i < 13 then some (b10 i) else none))))))) ∧ (∀ i, i < 13 → h' (b10 i) = some (.inl (1, (3001, .inr (.inl (fun _ => 0)))))) ∧ (h' b11 = some (mh_Ni 24)) ∧ (h' b12 = some (mh_Ni 12)) ∧ (h' b13 = some (mh_Ni 12)) ∧ (h' b14 = some (mh_Ni 2400)) ∧ (h' b15 = some (mh_Ni 12)) ∧ (h' b16 = some (mh_Ni 200)) ∧ (h' b17 = some (mh_Ni 6)) ∧ (h' b18 = some (mh_Ni 6)) ∧ (h' b19 = some (mh_Ni 3902)) ∧ (h' b20 = some (.inl (5, 13, .inr (.inr (.inr (.inr (fun i => if i < 13 then some (b21 i) else none))))))) ∧ (∀ i, i < 13 → h' (b21 i) = some (.inl (0, (20001, .inl (fun _ => 0))))) ∧ (h' b22 = some (.inl (5, 13, .inr (.inr (.inr (.inr (fun i => if i < 13 then some (b23 i) else none))))))) ∧ (∀ i, i < 13 → h' (b23 i) = some (.inl (0, (20001, .inl (fun _ => 0))))) ∧ (h' b24 = some (mh_Ni 100301)) ∧ (h' b25 = some (mh_Nz 301)) ∧ (h' b26 = some (mh_Ni 12)) ∧ (h' b27 = some (mh_Ni 12)) ∧ (h' b28 = some (mh_Ni 12)) ∧ (h' b29 = some (mh_Ni 50))
set_option maxRecDepth 100000 in
set_option maxHeartbeats 4000000 in
theorem c_X12_init {l : Launch} {L0 : List Nat} {h : mh_H} {o : Nat} (ho : h o = some (.inr (12, [.int 0, .null, .null, .int 0, .int 0, .int 0, .null, .int 0, .null, .null, .null, .null, .null, .null, .int 0, .int 0, .int 0, .null, .null, .null, .null, .null, .int 0, .int 0, .null, .null, .int 0, .int 0, .int 0, .null, .null, .null, .null, .null, .null, .null, .null, .null]))) : mh_Mc l yX12_init (Cond.code yX12_init cX12_init 1 none :: mh_TB) (mh_rn 1 98 2576990) o L0 h (mh_qX12 h o) 98 2576990 := by
  refine mh_ofC (by decide) rfl (Nat.le_of_ble_eq_true rfl) (fun p e s m below meth c D ks ls hr hin ao cx wd hl => ?_)
  have hx := cx.1.1
  have hb := cx.1.2.1
  have R0 : mh_Rg h o h [] := mh_Rg.nil (by rw [ho]; exact fun z => by cases z)
  refine lv_aload_n hx hb dX12_init_0 rfl (lv_at hl 0 rfl) ?_
  refine mh_obj cx (mh_in 1211 (by decide +kernel) (by decide +kernel)) wo_inst wo_code hl.1 dX12_init_1 ⟨Nat.le_of_ble_eq_true rfl, Nat.le_of_ble_eq_true rfl⟩ ?_
  refine lv_aload_n hx hb dX12_init_4 rfl (lv_at hl 0 rfl) ?_
  refine lv_sipush (v := 304) hx hb dX12_init_5 (by decide) ?_
  refine mh_nwi (N' := 304) cx wd wo_int (by decide) rfl (by decide) (Nat.le_of_ble_eq_true rfl) (Nat.le_of_ble_eq_true rfl) dX12_init_8 (fun q1 L H e2 wd => ?_)
  obtain ⟨h3, eh4⟩ : ∃ x, x = mh_up h q1 (mh_Ni 304) := ⟨_, rfl⟩
  rw [← eh4] at wd
  have R5 : mh_Rg h o h3 ([] ++ [q1]) := by rw [eh4]; exact R0.add e2
  have n6 : q1 ≠ o := fun z => by rw [z, ho] at e2; cases e2
  have ob7 : h3 o = some (.inr (12, [.int 0, .null, .null, .int 0, .int 0, .int 0, .null, .int 0, .null, .null, .null, .null, .null, .null, .int 0, .int 0, .int 0, .null, .null, .null, .null, .null, .int 0, .int 0, .null, .null, .int 0, .int 0, .int 0, .null, .null, .null, .null, .null, .null, .null, .null, .null])) := by rw [eh4, mh_up_ne (fun z => n6 z.symm)]; exact ho
  have f8 : h3 q1 = some (mh_Ni 304) := by rw [eh4]; exact mh_up_eq _ _ _
  refine mh_putF cx wd hin (ci := 12) (k := 1) (C := RX12) (T := TX12) (N := 38) (ty0 := tyX12) (ty := (.array .int)) ob7 rfl (by decide) uw_X12 (mh_in 1217 (by decide +kernel) (by decide +kernel)) tyX12_ok nmX12 rfl rfl (by decide +kernel) rfl rfl (Nat.le_of_ble_eq_true rfl) dX12_init_10 (fun H locs wd => ?_)
  obtain ⟨h9, eh10⟩ : ∃ x, x = mh_up h3 o (.inr (12, [.int 0, .ref q1, .null, .int 0, .int 0, .int 0, .null, .int 0, .null, .null, .null, .null, .null, .null, .int 0, .int 0, .int 0, .null, .null, .null, .null, .null, .int 0, .int 0, .null, .null, .int 0, .int 0, .int 0, .null, .null, .null, .null, .null, .null, .null, .null, .null])) := ⟨_, rfl⟩
  have wd : mh_W D ks L (mh_A L0 s.heap.size) s.heap h9 H locs := by rw [eh10]; exact wd
  have R11 : mh_Rg h o h9 ([] ++ [q1]) := by rw [eh10]; exact R5.set
  have ob12 : h9 o = some (.inr (12, [.int 0, .ref q1, .null, .int 0, .int 0, .int 0, .null, .int 0, .null, .null, .null, .null, .null, .null, .int 0, .int 0, .int 0, .null, .null, .null, .null, .null, .int 0, .int 0, .null, .null, .int 0, .int 0, .int 0, .null, .null, .null, .null, .null, .null, .null, .null, .null])) := by rw [eh10]; exact mh_up_eq _ _ _
  have f13 : h9 q1 = some (mh_Ni 304) := by rw [eh10, mh_up_ne n6]; exact f8
  refine lv_aload_n hx hb dX12_init_13 rfl (lv_at hl 0 rfl) ?_
  refine lv_bipush (v := 21) hx hb dX12_init_14 (by decide) ?_
  refine lv_sipush (v := 304) hx hb dX12_init_16 (by decide) ?_
  refine mh_nwm cx wd 5 0 (ty := .int) (N' := 21) (K' := 304) (z := (304, .inl (fun _ => 0))) rfl (cx.2.1.2 0 _ rfl).2 ao.2.2.1 (mh_in 1212 (by decide +kernel) (by decide +kernel)) wo_int (by decide) (by decide) rfl rfl (by decide) (by decide) (by decide) rfl rfl (Nat.le_of_ble_eq_true rfl) (Nat.le_of_ble_eq_true rfl) (mh_inI 304) dX12_init_19 (fun q14 a15 L H e16 e17 e18 wd => ?_)
  obtain ⟨h19, eh20⟩ : ∃ x, x = mh_rws h9 q14 (.inl (5, 21, .inr (.inr (.inr (.inr (fun i => if i < 21 then some (a15 i) else none)))))) ((List.range 21).map a15) (.inl (0, (304, .inl (fun _ => 0)))) := ⟨_, rfl⟩
  rw [← eh20] at wd
  have R21 : mh_Rg h o h19 (([] ++ [q1]) ++ q14 :: (List.range 21).map a15) := by rw [eh20]; exact R11.rows e16 e17 e18
  have n22 : q14 ≠ o := fun z => by rw [z, ob12] at e16; cases e16
  have n23 : ∀ i, i < 21 → a15 i ≠ o := fun i hi z => by have w := (e17 i hi).1; rw [z, ob12] at w; cases w
  have k24 : ∀ b, h9 b ≠ none → h19 b = h9 b := fun b hb => by rw [eh20]; exact mh_rws_ne (fun z => hb (by rw [z]; exact e16)) (fun i hi z => hb (by rw [z]; exact (e17 i hi).1))
  have ob25 : h19 o = some (.inr (12, [.int 0, .ref q1, .null, .int 0, .int 0, .int 0, .null, .int 0, .null, .null, .null, .null, .null, .null, .int 0, .int 0, .int 0, .null, .null, .null, .null, .null, .int 0, .int 0, .null, .null, .int 0, .int 0, .int 0, .null, .null, .null, .null, .null, .null, .null, .null, .null])) := (k24 o (by rw [ob12]; exact fun z => by cases z)).trans ob12
  have f26 : h19 q1 = some (mh_Ni 304) := (k24 _ (by rw [f13]; exact fun z => by cases z)).trans f13
  have f27 : h19 q14 = some (.inl (5, 21, .inr (.inr (.inr (.inr (fun i => if i < 21 then some (a15 i) else none)))))) := by rw [eh20]; exact if_pos rfl
  have f28 : ∀ i, i < 21 → h19 (a15 i) = some (.inl (0, (304, .inl (fun _ => 0)))) := fun i hi => by rw [eh20]; exact mh_rws_in (e17 i hi).2 hi
  refine mh_putF cx wd hin (ci := 12) (k := 2) (C := RX12) (T := TX12) (N := 38) (ty0 := tyX12) (ty := (.array (.array .int))) ob25 rfl (by decide) uw_X12 (mh_in 1218 (by decide +kernel) (by decide +kernel)) tyX12_ok nmX12 rfl rfl (by decide +kernel) rfl rfl (Nat.le_of_ble_eq_true rfl) dX12_init_23 (fun H locs wd => ?_)
  obtain ⟨h29, eh30⟩ : ∃ x, x = mh_up h19 o (.inr (12, [.int 0, .ref q1, .ref q14, .int 0, .int 0, .int 0, .null, .int 0, .null, .null, .null, .null, .null, .null, .int 0, .int 0, .int 0, .null, .null, .null, .null, .null, .int 0, .int 0, .null, .null, .int 0, .int 0, .int 0, .null, .null, .null, .null, .null, .null, .null, .null, .null])) := ⟨_, rfl⟩
  have wd : mh_W D ks L (mh_A L0 s.heap.size) s.heap h29 H locs := by rw [eh30]; exact wd
  have R31 : mh_Rg h o h29 (([] ++ [q1]) ++ q14 :: (List.range 21).map a15) := by rw [eh30]; exact R21.set
  have ob32 : h29 o = some (.inr (12, [.int 0, .ref q1, .ref q14, .int 0, .int 0, .int 0, .null, .int 0, .null, .null, .null, .null, .null, .null, .int 0, .int 0, .int 0, .null, .null, .null, .null, .null, .int 0, .int 0, .null, .null, .int 0, .int 0, .int 0, .null, .null, .null, .null, .null, .null, .null, .null, .null])) := by rw [eh30]; exact mh_up_eq _ _ _
  have f33 : h29 q1 = some (mh_Ni 304) := by rw [eh30, mh_up_ne n6]; exact f26
  have f34 : h29 q14 = some (.inl (5, 21, .inr (.inr (.inr (.inr (fun i => if i < 21 then some (a15 i) else none)))))) := by rw [eh30, mh_up_ne n22]; exact f27
  have f35 : ∀ i, i < 21 → h29 (a15 i) = some (.inl (0, (304, .inl (fun _ => 0)))) := fun i hi => by rw [eh30, mh_up_ne (n23 i hi)]; exact f28 i hi
  refine lv_aload_n hx hb dX12_init_26 rfl (lv_at hl 0 rfl) ?_
  refine lv_bipush (v := 12) hx hb dX12_init_27 (by decide) ?_
  refine mh_nwi (N' := 12) cx wd wo_int (by decide) rfl (by decide) (Nat.le_of_ble_eq_true rfl) (Nat.le_of_ble_eq_true rfl) dX12_init_29 (fun q36 L H e37 wd => ?_)
  obtain ⟨h38, eh39⟩ : ∃ x, x = mh_up h29 q36 (mh_Ni 12) := ⟨_, rfl⟩
  rw [← eh39] at wd
  have R40 : mh_Rg h o h38 ((([] ++ [q1]) ++ q14 :: (List.range 21).map a15) ++ [q36]) := by rw [eh39]; exact R31.add e37
  have n41 : q36 ≠ o := fun z => by rw [z, ob32] at e37; cases e37
  have ob42 : h38 o = some (.inr (12, [.int 0, .ref q1, .ref q14, .int 0, .int 0, .int 0, .null, .int 0, .null, .null, .null, .null, .null, .null, .int 0, .int 0, .int 0, .null, .null, .null, .null, .null, .int 0, .int 0, .null, .null, .int 0, .int 0, .int 0, .null, .null, .null, .null, .null, .null, .null, .null, .null])) := by rw [eh39, mh_up_ne (fun z => n41 z.symm)]; exact ob32
  have n_q1_q36 : q1 ≠ q36 := fun z => by rw [z, e37] at f33; cases f33
  have f43 : h38 q1 = some (mh_Ni 304) := by rw [eh39, mh_up_ne n_q1_q36]; exact f33
  have n_q14_q36 : q14 ≠ q36 := fun z => by rw [z, e37] at f34; cases f34
  have f44 : h38 q14 = some (.inl (5, 21, .inr (.inr (.inr (.inr (fun i => if i < 21 then some (a15 i) else none)))))) := by rw [eh39, mh_up_ne n_q14_q36]; exact f34
  have n_a15_q36 : ∀ i, i < 21 → a15 i ≠ q36 := fun i hi z => by have w := f35 i hi; rw [z, e37] at w; cases w
  have f45 : ∀ i, i < 21 → h38 (a15 i) = some (.inl (0, (304, .inl (fun _ => 0)))) := fun i hi => by rw [eh39, mh_up_ne (n_a15_q36 i hi)]; exact f35 i hi
  have f46 : h38 q36 = some (mh_Ni 12) := by rw [eh39]; exact mh_up_eq _ _ _
  refine mh_putF cx wd hin (ci := 12) (k := 6) (C := RX12) (T := TX12) (N := 38) (ty0 := tyX12) (ty := (.array .int)) ob42 rfl (by decide) uw_X12 (mh_in 1222 (by decide +kernel) (by decide +kernel)) tyX12_ok nmX12 rfl rfl (by decide +kernel) rfl rfl (Nat.le_of_ble_eq_true rfl) dX12_init_31 (fun H locs wd => ?_)
  obtain ⟨h47, eh48⟩ : ∃ x, x = mh_up h38 o (.inr (12, [.int 0, .ref q1, .ref q14, .int 0, .int 0, .int 0, .ref q36, .int 0, .null, .null, .null, .null, .null, .null, .int 0, .int 0, .int 0, .null, .null, .null, .null, .null, .int 0, .int 0, .null, .null, .int 0, .int 0, .int 0, .null, .null, .null, .null, .null, .null, .null, .null, .null])) := ⟨_, rfl⟩
  have wd : mh_W D ks L (mh_A L0 s.heap.size) s.heap h47 H locs := by rw [eh48]; exact wd
  have R49 : mh_Rg h o h47 ((([] ++ [q1]) ++ q14 :: (List.range 21).map a15) ++ [q36]) := by rw [eh48]; exact R40.set
  have ob50 : h47 o = some (.inr (12, [.int 0, .ref q1, .ref q14, .int 0, .int 0, .int 0, .ref q36, .int 0, .null, .null, .null, .null, .null, .null, .int 0, .int 0, .int 0, .null, .null, .null, .null, .null, .int 0, .int 0, .null, .null, .int 0, .int 0, .int 0, .null, .null, .null, .null, .null, .null, .null, .null, .null])) := by rw [eh48]; exact mh_up_eq _ _ _
  have f51 : h47 q1 = some (mh_Ni 304) := by rw [eh48, mh_up_ne n6]; exact f43
  have f52 : h47 q14 = some (.inl (5, 21, .inr (.inr (.inr (.inr (fun i => if i < 21 then some (a15 i) else none)))))) := by rw [eh48, mh_up_ne n22]; exact f44
  have f53 : ∀ i, i < 21 → h47 (a15 i) = some (.inl (0, (304, .inl (fun _ => 0)))) := fun i hi => by rw [eh48, mh_up_ne (n23 i hi)]; exact f45 i hi
  have f54 : h47 q36 = some (mh_Ni 12) := by rw [eh48, mh_up_ne n41]; exact f46
  refine lv_aload_n hx hb dX12_init_34 rfl (lv_at hl 0 rfl) ?_
  refine lv_iconst (v := (-1)) hx hb dX12_init_35 (by decide) ?_
  refine mh_putN (k := 7) cx wd ob50 (Nat.le_of_ble_eq_true rfl)  fp_X12_21 dX12_init_36 (fun H locs wd => ?_)
  obtain ⟨h55, eh56⟩ : ∃ x, x = mh_up h47 o (.inr (12, [.int 0, .ref q1, .ref q14, .int 0, .int 0, .int 0, .ref q36, .int (-1), .null, .null, .null, .null, .null, .null, .int 0, .int 0, .int 0, .null, .null, .null, .null, .null, .int 0, .int 0, .null, .null, .int 0, .int 0, .int 0, .null, .null, .null, .null, .null, .null, .null, .null, .null])) := ⟨_, rfl⟩
  have wd : mh_W D ks L (mh_A L0 s.heap.size) s.heap h55 H locs := by rw [eh56]; exact wd
  have R57 : mh_Rg h o h55 ((([] ++ [q1]) ++ q14 :: (List.range 21).map a15) ++ [q36]) := by rw [eh56]; exact R49.set
  have ob58 : h55 o = some (.inr (12, [.int 0, .ref q1, .ref q14, .int 0, .int 0, .int 0, .ref q36, .int (-1), .null, .null, .null, .null, .null, .null, .int 0, .int 0, .int 0, .null, .null, .null, .null, .null, .int 0, .int 0, .null, .null, .int 0, .int 0, .int 0, .null, .null, .null, .null, .null, .null, .null, .null, .null])) := by rw [eh56]; exact mh_up_eq _ _ _
  have f59 : h55 q1 = some (mh_Ni 304) := by rw [eh56, mh_up_ne n6]; exact f51
  have f60 : h55 q14 = some (.inl (5, 21, .inr (.inr (.inr (.inr (fun i => if i < 21 then some (a15 i) else none)))))) := by rw [eh56, mh_up_ne n22]; exact f52
  have f61 : ∀ i, i < 21 → h55 (a15 i) = some (.inl (0, (304, .inl (fun _ => 0)))) := fun i hi => by rw [eh56, mh_up_ne (n23 i hi)]; exact f53 i hi
  have f62 : h55 q36 = some (mh_Ni 12) := by rw [eh56, mh_up_ne n41]; exact f54
  refine lv_aload_n hx hb dX12_init_39 rfl (lv_at hl 0 rfl) ?_
  refine lv_bipush (v := 13) hx hb dX12_init_40 (by decide) ?_
  refine mh_ldc cx (show Cond.constant RX12 25 (100301) ∈ mh_TB from (mh_in 1213 (by decide +kernel) (by decide +kernel))) dX12_init_42 ?_
  refine mh_nwm cx wd 5 0 (ty := .int) (N' := 13) (K' := 100301) (z := (100301, .inl (fun _ => 0))) rfl (cx.2.1.2 0 _ rfl).2 ao.2.2.1 (mh_in 1212 (by decide +kernel) (by decide +kernel)) wo_int (by decide) (by decide) rfl rfl (by decide) (by decide) (by decide) rfl rfl (Nat.le_of_ble_eq_true rfl) (Nat.le_of_ble_eq_true rfl) (mh_inI 100301) dX12_init_44 (fun q63 a64 L H e65 e66 e67 wd => ?_)
  obtain ⟨h68, eh69⟩ : ∃ x, x = mh_rws h55 q63 (.inl (5, 13, .inr (.inr (.inr (.inr (fun i => if i < 13 then some (a64 i) else none)))))) ((List.range 13).map a64) (.inl (0, (100301, .inl (fun _ => 0)))) := ⟨_, rfl⟩
  rw [← eh69] at wd
  have R70 : mh_Rg h o h68 (((([] ++ [q1]) ++ q14 :: (List.range 21).map a15) ++ [q36]) ++ q63 :: (List.range 13).map a64) := by rw [eh69]; exact R57.rows e65 e66 e67
  have n71 : q63 ≠ o := fun z => by rw [z, ob58] at e65; cases e65
  have n72 : ∀ i, i < 13 → a64 i ≠ o := fun i hi z => by have w := (e66 i hi).1; rw [z, ob58] at w; cases w
  have k73 : ∀ b, h55 b ≠ none → h68 b = h55 b := fun b hb => by rw [eh69]; exact mh_rws_ne (fun z => hb (by rw [z]; exact e65)) (fun i hi z => hb (by rw [z]; exact (e66 i hi).1))
  have ob74 : h68 o = some (.inr (12, [.int 0, .ref q1, .ref q14, .int 0, .int 0, .int 0, .ref q36, .int (-1), .null, .null, .null, .null, .null, .null, .int 0, .int 0, .int 0, .null, .null, .null, .null, .null, .int 0, .int 0, .null, .null, .int 0, .int 0, .int 0, .null, .null, .null, .null, .null, .null, .null, .null, .null])) := (k73 o (by rw [ob58]; exact fun z => by cases z)).trans ob58
  have f75 : h68 q1 = some (mh_Ni 304) := (k73 _ (by rw [f59]; exact fun z => by cases z)).trans f59
  have f76 : h68 q14 = some (.inl (5, 21, .inr (.inr (.inr (.inr (fun i => if i < 21 then some (a15 i) else none)))))) := (k73 _ (by rw [f60]; exact fun z => by cases z)).trans f60
  have f77 : ∀ i, i < 21 → h68 (a15 i) = some (.inl (0, (304, .inl (fun _ => 0)))) := fun i hi => (k73 _ (by rw [f61 i hi]; exact fun z => by cases z)).trans (f61 i hi)
  have f78 : h68 q36 = some (mh_Ni 12) := (k73 _ (by rw [f62]; exact fun z => by cases z)).trans f62
  have f79 : h68 q63 = some (.inl (5, 13, .inr (.inr (.inr (.inr (fun i => if i < 13 then some (a64 i) else none)))))) := by rw [eh69]; exact if_pos rfl
  have f80 : ∀ i, i < 13 → h68 (a64 i) = some (.inl (0, (100301, .inl (fun _ => 0)))) := fun i hi => by rw [eh69]; exact mh_rws_in (e66 i hi).2 hi
  refine mh_putF cx wd hin (ci := 12) (k := 8) (C := RX12) (T := TX12) (N := 38) (ty0 := tyX12) (ty := (.array (.array .int))) ob74 rfl (by decide) uw_X12 (mh_in 1224 (by decide +kernel) (by decide +kernel)) tyX12_ok nmX12 rfl rfl (by decide +kernel) rfl rfl (Nat.le_of_ble_eq_true rfl) dX12_init_48 (fun H locs wd => ?_)
  obtain ⟨h81, eh82⟩ : ∃ x, x = mh_up h68 o (.inr (12, [.int 0, .ref q1, .ref q14, .int 0, .int 0, .int 0, .ref q36, .int (-1), .ref q63, .null, .null, .null, .null, .null, .int 0, .int 0, .int 0, .null, .null, .null, .null, .null, .int 0, .int 0, .null, .null, .int 0, .int 0, .int 0, .null, .null, .null, .null, .null, .null, .null, .null, .null])) := ⟨_, rfl⟩
  have wd : mh_W D ks L (mh_A L0 s.heap.size) s.heap h81 H locs := by rw [eh82]; exact wd
  have R83 : mh_Rg h o h81 (((([] ++ [q1]) ++ q14 :: (List.range 21).map a15) ++ [q36]) ++ q63 :: (List.range 13).map a64) := by rw [eh82]; exact R70.set
  have ob84 : h81 o = some (.inr (12, [.int 0, .ref q1, .ref q14, .int 0, .int 0, .int 0, .ref q36, .int (-1), .ref q63, .null, .null, .null, .null, .null, .int 0, .int 0, .int 0, .null, .null, .null, .null, .null, .int 0, .int 0, .null, .null, .int 0, .int 0, .int 0, .null, .null, .null, .null, .null, .null, .null, .null, .null])) := by rw [eh82]; exact mh_up_eq _ _ _
  have f85 : h81 q1 = some (mh_Ni 304) := by rw [eh82, mh_up_ne n6]; exact f75
  have f86 : h81 q14 = some (.inl (5, 21, .inr (.inr (.inr (.inr (fun i => if i < 21 then some (a15 i) else none)))))) := by rw [eh82, mh_up_ne n22]; exact f76
  have f87 : ∀ i, i < 21 → h81 (a15 i) = some (.inl (0, (304, .inl (fun _ => 0)))) := fun i hi => by rw [eh82, mh_up_ne (n23 i hi)]; exact f77 i hi
  have f88 : h81 q36 = some (mh_Ni 12) := by rw [eh82, mh_up_ne n41]; exact f78
  have f89 : h81 q63 = some (.inl (5, 13, .inr (.inr (.inr (.inr (fun i => if i < 13 then some (a64 i) else none)))))) := by rw [eh82, mh_up_ne n71]; exact f79
  have f90 : ∀ i, i < 13 → h81 (a64 i) = some (.inl (0, (100301, .inl (fun _ => 0)))) := fun i hi => by rw [eh82, mh_up_ne (n72 i hi)]; exact f80 i hi
  refine lv_aload_n hx hb dX12_init_51 rfl (lv_at hl 0 rfl) ?_
  refine mh_ldc cx (show Cond.constant RX12 29 (200001) ∈ mh_TB from (mh_in 1214 (by decide +kernel) (by decide +kernel))) dX12_init_52 ?_
  refine mh_nwz (N' := 200001) cx wd wo_boolean (by decide) rfl (by decide) (Nat.le_of_ble_eq_true rfl) (Nat.le_of_ble_eq_true rfl) dX12_init_54 (fun q91 L H e92 wd => ?_)
  obtain ⟨h93, eh94⟩ : ∃ x, x = mh_up h81 q91 (mh_Nz 200001) := ⟨_, rfl⟩
  rw [← eh94] at wd
  have R95 : mh_Rg h o h93 ((((([] ++ [q1]) ++ q14 :: (List.range 21).map a15) ++ [q36]) ++ q63 :: (List.range 13).map a64) ++ [q91]) := by rw [eh94]; exact R83.add e92
  have n96 : q91 ≠ o := fun z => by rw [z, ob84] at e92; cases e92
  have ob97 : h93 o = some (.inr (12, [.int 0, .ref q1, .ref q14, .int 0, .int 0, .int 0, .ref q36, .int (-1), .ref q63, .null, .null, .null, .null, .null, .int 0, .int 0, .int 0, .null, .null, .null, .null, .null, .int 0, .int 0, .null, .null, .int 0, .int 0, .int 0, .null, .null, .null, .null, .null, .null, .null, .null, .null])) := by rw [eh94, mh_up_ne (fun z => n96 z.symm)]; exact ob84
  have n_q1_q91 : q1 ≠ q91 := fun z => by rw [z, e92] at f85; cases f85
  have f98 : h93 q1 = some (mh_Ni 304) := by rw [eh94, mh_up_ne n_q1_q91]; exact f85
  have n_q14_q91 : q14 ≠ q91 := fun z => by rw [z, e92] at f86; cases f86
  have f99 : h93 q14 = some (.inl (5, 21, .inr (.inr (.inr (.inr (fun i => if i < 21 then some (a15 i) else none)))))) := by rw [eh94, mh_up_ne n_q14_q91]; exact f86
  have n_a15_q91 : ∀ i, i < 21 → a15 i ≠ q91 := fun i hi z => by have w := f87 i hi; rw [z, e92] at w; cases w
  have f100 : ∀ i, i < 21 → h93 (a15 i) = some (.inl (0, (304, .inl (fun _ => 0)))) := fun i hi => by rw [eh94, mh_up_ne (n_a15_q91 i hi)]; exact f87 i hi
  have n_q36_q91 : q36 ≠ q91 := fun z => by rw [z, e92] at f88; cases f88
  have f101 : h93 q36 = some (mh_Ni 12) := by rw [eh94, mh_up_ne n_q36_q91]; exact f88
  have n_q63_q91 : q63 ≠ q91 := fun z => by rw [z, e92] at f89; cases f89
  have f102 : h93 q63 = some (.inl (5, 13, .inr (.inr (.inr (.inr (fun i => if i < 13 then some (a64 i) else none)))))) := by rw [eh94, mh_up_ne n_q63_q91]; exact f89
  have n_a64_q91 : ∀ i, i < 13 → a64 i ≠ q91 := fun i hi z => by have w := f90 i hi; rw [z, e92] at w; cases w
  have f103 : ∀ i, i < 13 → h93 (a64 i) = some (.inl (0, (100301, .inl (fun _ => 0)))) := fun i hi => by rw [eh94, mh_up_ne (n_a64_q91 i hi)]; exact f90 i hi
  have f104 : h93 q91 = some (mh_Nz 200001) := by rw [eh94]; exact mh_up_eq _ _ _
  refine mh_putF cx wd hin (ci := 12) (k := 9) (C := RX12) (T := TX12) (N := 38) (ty0 := tyX12) (ty := (.array .boolean)) ob97 rfl (by decide) uw_X12 (mh_in 1225 (by decide +kernel) (by decide +kernel)) tyX12_ok nmX12 rfl rfl (by decide +kernel) rfl rfl (Nat.le_of_ble_eq_true rfl) dX12_init_56 (fun H locs wd => ?_)
  obtain ⟨h105, eh106⟩ : ∃ x, x = mh_up h93 o (.inr (12, [.int 0, .ref q1, .ref q14, .int 0, .int 0, .int 0, .ref q36, .int (-1), .ref q63, .ref q91, .null, .null, .null, .null, .int 0, .int 0, .int 0, .null, .null, .null, .null, .null, .int 0, .int 0, .null, .null, .int 0, .int 0, .int 0, .null, .null, .null, .null, .null, .null, .null, .null, .null])) := ⟨_, rfl⟩
  have wd : mh_W D ks L (mh_A L0 s.heap.size) s.heap h105 H locs := by rw [eh106]; exact wd
  have R107 : mh_Rg h o h105 ((((([] ++ [q1]) ++ q14 :: (List.range 21).map a15) ++ [q36]) ++ q63 :: (List.range 13).map a64) ++ [q91]) := by rw [eh106]; exact R95.set
  have ob108 : h105 o = some (.inr (12, [.int 0, .ref q1, .ref q14, .int 0, .int 0, .int 0, .ref q36, .int (-1), .ref q63, .ref q91, .null, .null, .null, .null, .int 0, .int 0, .int 0, .null, .null, .null, .null, .null, .int 0, .int 0, .null, .null, .int 0, .int 0, .int 0, .null, .null, .null, .null, .null, .null, .null, .null, .null])) := by rw [eh106]; exact mh_up_eq _ _ _
  have f109 : h105 q1 = some (mh_Ni 304) := by rw [eh106, mh_up_ne n6]; exact f98
  have f110 : h105 q14 = some (.inl (5, 21, .inr (.inr (.inr (.inr (fun i => if i < 21 then some (a15 i) else none)))))) := by rw [eh106, mh_up_ne n22]; exact f99
  have f111 : ∀ i, i < 21 → h105 (a15 i) = some (.inl (0, (304, .inl (fun _ => 0)))) := fun i hi => by rw [eh106, mh_up_ne (n23 i hi)]; exact f100 i hi
  have f112 : h105 q36 = some (mh_Ni 12) := by rw [eh106, mh_up_ne n41]; exact f101
  have f113 : h105 q63 = some (.inl (5, 13, .inr (.inr (.inr (.inr (fun i => if i < 13 then some (a64 i) else none)))))) := by rw [eh106, mh_up_ne n71]; exact f102
  have f114 : ∀ i, i < 13 → h105 (a64 i) = some (.inl (0, (100301, .inl (fun _ => 0)))) := fun i hi => by rw [eh106, mh_up_ne (n72 i hi)]; exact f103 i hi
  have f115 : h105 q91 = some (mh_Nz 200001) := by rw [eh106, mh_up_ne n96]; exact f104
  refine lv_aload_n hx hb dX12_init_59 rfl (lv_at hl 0 rfl) ?_
  refine mh_ldc cx (show Cond.constant RX12 29 (200001) ∈ mh_TB from (mh_in 1214 (by decide +kernel) (by decide +kernel))) dX12_init_60 ?_
  refine mh_nwz (N' := 200001) cx wd wo_boolean (by decide) rfl (by decide) (Nat.le_of_ble_eq_true rfl) (Nat.le_of_ble_eq_true rfl) dX12_init_62 (fun q116 L H e117 wd => ?_)
  obtain ⟨h118, eh119⟩ : ∃ x, x = mh_up h105 q116 (mh_Nz 200001) := ⟨_, rfl⟩
  rw [← eh119] at wd
  have R120 : mh_Rg h o h118 (((((([] ++ [q1]) ++ q14 :: (List.range 21).map a15) ++ [q36]) ++ q63 :: (List.range 13).map a64) ++ [q91]) ++ [q116]) := by rw [eh119]; exact R107.add e117
  have n121 : q116 ≠ o := fun z => by rw [z, ob108] at e117; cases e117
  have ob122 : h118 o = some (.inr (12, [.int 0, .ref q1, .ref q14, .int 0, .int 0, .int 0, .ref q36, .int (-1), .ref q63, .ref q91, .null, .null, .null, .null, .int 0, .int 0, .int 0, .null, .null, .null, .null, .null, .int 0, .int 0, .null, .null, .int 0, .int 0, .int 0, .null, .null, .null, .null, .null, .null, .null, .null, .null])) := by rw [eh119, mh_up_ne (fun z => n121 z.symm)]; exact ob108
  have n_q1_q116 : q1 ≠ q116 := fun z => by rw [z, e117] at f109; cases f109
  have f123 : h118 q1 = some (mh_Ni 304) := by rw [eh119, mh_up_ne n_q1_q116]; exact f109
  have n_q14_q116 : q14 ≠ q116 := fun z => by rw [z, e117] at f110; cases f110
  have f124 : h118 q14 = some (.inl (5, 21, .inr (.inr (.inr (.inr (fun i => if i < 21 then some (a15 i) else none)))))) := by rw [eh119, mh_up_ne n_q14_q116]; exact f110
  have n_a15_q116 : ∀ i, i < 21 → a15 i ≠ q116 := fun i hi z => by have w := f111 i hi; rw [z, e117] at w; cases w
  have f125 : ∀ i, i < 21 → h118 (a15 i) = some (.inl (0, (304, .inl (fun _ => 0)))) := fun i hi => by rw [eh119, mh_up_ne (n_a15_q116 i hi)]; exact f111 i hi
  have n_q36_q116 : q36 ≠ q116 := fun z => by rw [z, e117] at f112; cases f112
  have f126 : h118 q36 = some (mh_Ni 12) := by rw [eh119, mh_up_ne n_q36_q116]; exact f112
  have n_q63_q116 : q63 ≠ q116 := fun z => by rw [z, e117] at f113; cases f113
  have f127 : h118 q63 = some (.inl (5, 13, .inr (.inr (.inr (.inr (fun i => if i < 13 then some (a64 i) else none)))))) := by rw [eh119, mh_up_ne n_q63_q116]; exact f113
  have n_a64_q116 : ∀ i, i < 13 → a64 i ≠ q116 := fun i hi z => by have w := f114 i hi; rw [z, e117] at w; cases w
  have f128 : ∀ i, i < 13 → h118 (a64 i) = some (.inl (0, (100301, .inl (fun _ => 0)))) := fun i hi => by rw [eh119, mh_up_ne (n_a64_q116 i hi)]; exact f114 i hi
  have n_q91_q116 : q91 ≠ q116 := fun z => by rw [z, e117] at f115; cases f115
  have f129 : h118 q91 = some (mh_Nz 200001) := by rw [eh119, mh_up_ne n_q91_q116]; exact f115
  have f130 : h118 q116 = some (mh_Nz 200001) := by rw [eh119]; exact mh_up_eq _ _ _
  refine mh_putF cx wd hin (ci := 12) (k := 10) (C := RX12) (T := TX12) (N := 38) (ty0 := tyX12) (ty := (.array .boolean)) ob122 rfl (by decide) uw_X12 (mh_in 1226 (by decide +kernel) (by decide +kernel)) tyX12_ok nmX12 rfl rfl (by decide +kernel) rfl rfl (Nat.le_of_ble_eq_true rfl) dX12_init_64 (fun H locs wd => ?_)
  obtain ⟨h131, eh132⟩ : ∃ x, x = mh_up h118 o (.inr (12, [.int 0, .ref q1, .ref q14, .int 0, .int 0, .int 0, .ref q36, .int (-1), .ref q63, .ref q91, .ref q116, .null, .null, .null, .int 0, .int 0, .int 0, .null, .null, .null, .null, .null, .int 0, .int 0, .null, .null, .int 0, .int 0, .int 0, .null, .null, .null, .null, .null, .null, .null, .null, .null])) := ⟨_, rfl⟩
  have wd : mh_W D ks L (mh_A L0 s.heap.size) s.heap h131 H locs := by rw [eh132]; exact wd
  have R133 : mh_Rg h o h131 (((((([] ++ [q1]) ++ q14 :: (List.range 21).map a15) ++ [q36]) ++ q63 :: (List.range 13).map a64) ++ [q91]) ++ [q116]) := by rw [eh132]; exact R120.set
  have ob134 : h131 o = some (.inr (12, [.int 0, .ref q1, .ref q14, .int 0, .int 0, .int 0, .ref q36, .int (-1), .ref q63, .ref q91, .ref q116, .null, .null, .null, .int 0, .int 0, .int 0, .null, .null, .null, .null, .null, .int 0, .int 0, .null, .null, .int 0, .int 0, .int 0, .null, .null, .null, .null, .null, .null, .null, .null, .null])) := by rw [eh132]; exact mh_up_eq _ _ _
  have f135 : h131 q1 = some (mh_Ni 304) := by rw [eh132, mh_up_ne n6]; exact f123
  have f136 : h131 q14 = some (.inl (5, 21, .inr (.inr (.inr (.inr (fun i => if i < 21 then some (a15 i) else none)))))) := by rw [eh132, mh_up_ne n22]; exact f124
  have f137 : ∀ i, i < 21 → h131 (a15 i) = some (.inl (0, (304, .inl (fun _ => 0)))) := fun i hi => by rw [eh132, mh_up_ne (n23 i hi)]; exact f125 i hi
  have f138 : h131 q36 = some (mh_Ni 12) := by rw [eh132, mh_up_ne n41]; exact f126
  have f139 : h131 q63 = some (.inl (5, 13, .inr (.inr (.inr (.inr (fun i => if i < 13 then some (a64 i) else none)))))) := by rw [eh132, mh_up_ne n71]; exact f127
  have f140 : ∀ i, i < 13 → h131 (a64 i) = some (.inl (0, (100301, .inl (fun _ => 0)))) := fun i hi => by rw [eh132, mh_up_ne (n72 i hi)]; exact f128 i hi
  have f141 : h131 q91 = some (mh_Nz 200001) := by rw [eh132, mh_up_ne n96]; exact f129
  have f142 : h131 q116 = some (mh_Nz 200001) := by rw [eh132, mh_up_ne n121]; exact f130
  refine lv_aload_n hx hb dX12_init_67 rfl (lv_at hl 0 rfl) ?_
  refine mh_ldc cx (show Cond.constant RX12 29 (200001) ∈ mh_TB from (mh_in 1214 (by decide +kernel) (by decide +kernel))) dX12_init_68 ?_
  refine mh_nwz (N' := 200001) cx wd wo_boolean (by decide) rfl (by decide) (Nat.le_of_ble_eq_true rfl) (Nat.le_of_ble_eq_true rfl) dX12_init_70 (fun q143 L H e144 wd => ?_)
  obtain ⟨h145, eh146⟩ : ∃ x, x = mh_up h131 q143 (mh_Nz 200001) := ⟨_, rfl⟩
  rw [← eh146] at wd
  have R147 : mh_Rg h o h145 ((((((([] ++ [q1]) ++ q14 :: (List.range 21).map a15) ++ [q36]) ++ q63 :: (List.range 13).map a64) ++ [q91]) ++ [q116]) ++ [q143]) := by rw [eh146]; exact R133.add e144
  have n148 : q143 ≠ o := fun z => by rw [z, ob134] at e144; cases e144
  have ob149 : h145 o = some (.inr (12, [.int 0, .ref q1, .ref q14, .int 0, .int 0, .int 0, .ref q36, .int (-1), .ref q63, .ref q91, .ref q116, .null, .null, .null, .int 0, .int 0, .int 0, .null, .null, .null, .null, .null, .int 0, .int 0, .null, .null, .int 0, .int 0, .int 0, .null, .null, .null, .null, .null, .null, .null, .null, .null])) := by rw [eh146, mh_up_ne (fun z => n148 z.symm)]; exact ob134
  have n_q1_q143 : q1 ≠ q143 := fun z => by rw [z, e144] at f135; cases f135
  have f150 : h145 q1 = some (mh_Ni 304) := by rw [eh146, mh_up_ne n_q1_q143]; exact f135
  have n_q14_q143 : q14 ≠ q143 := fun z => by rw [z, e144] at f136; cases f136
  have f151 : h145 q14 = some (.inl (5, 21, .inr (.inr (.inr (.inr (fun i => if i < 21 then some (a15 i) else none)))))) := by rw [eh146, mh_up_ne n_q14_q143]; exact f136
  have n_a15_q143 : ∀ i, i < 21 → a15 i ≠ q143 := fun i hi z => by have w := f137 i hi; rw [z, e144] at w; cases w
  have f152 : ∀ i, i < 21 → h145 (a15 i) = some (.inl (0, (304, .inl (fun _ => 0)))) := fun i hi => by rw [eh146, mh_up_ne (n_a15_q143 i hi)]; exact f137 i hi
  have n_q36_q143 : q36 ≠ q143 := fun z => by rw [z, e144] at f138; cases f138
  have f153 : h145 q36 = some (mh_Ni 12) := by rw [eh146, mh_up_ne n_q36_q143]; exact f138
  have n_q63_q143 : q63 ≠ q143 := fun z => by rw [z, e144] at f139; cases f139
  have f154 : h145 q63 = some (.inl (5, 13, .inr (.inr (.inr (.inr (fun i => if i < 13 then some (a64 i) else none)))))) := by rw [eh146, mh_up_ne n_q63_q143]; exact f139
  have n_a64_q143 : ∀ i, i < 13 → a64 i ≠ q143 := fun i hi z => by have w := f140 i hi; rw [z, e144] at w; cases w
  have f155 : ∀ i, i < 13 → h145 (a64 i) = some (.inl (0, (100301, .inl (fun _ => 0)))) := fun i hi => by rw [eh146, mh_up_ne (n_a64_q143 i hi)]; exact f140 i hi
  have n_q91_q143 : q91 ≠ q143 := fun z => by rw [z, e144] at f141; cases f141
  have f156 : h145 q91 = some (mh_Nz 200001) := by rw [eh146, mh_up_ne n_q91_q143]; exact f141
  have n_q116_q143 : q116 ≠ q143 := fun z => by rw [z, e144] at f142; cases f142
  have f157 : h145 q116 = some (mh_Nz 200001) := by rw [eh146, mh_up_ne n_q116_q143]; exact f142
  have f158 : h145 q143 = some (mh_Nz 200001) := by rw [eh146]; exact mh_up_eq _ _ _
  refine mh_putF cx wd hin (ci := 12) (k := 11) (C := RX12) (T := TX12) (N := 38) (ty0 := tyX12) (ty := (.array .boolean)) ob149 rfl (by decide) uw_X12 (mh_in 1227 (by decide +kernel) (by decide +kernel)) tyX12_ok nmX12 rfl rfl (by decide +kernel) rfl rfl (Nat.le_of_ble_eq_true rfl) dX12_init_72 (fun H locs wd => ?_)
  obtain ⟨h159, eh160⟩ : ∃ x, x = mh_up h145 o (.inr (12, [.int 0, .ref q1, .ref q14, .int 0, .int 0, .int 0, .ref q36, .int (-1), .ref q63, .ref q91, .ref q116, .ref q143, .null, .null, .int 0, .int 0, .int 0, .null, .null, .null, .null, .null, .int 0, .int 0, .null, .null, .int 0, .int 0, .int 0, .null, .null, .null, .null, .null, .null, .null, .null, .null])) := ⟨_, rfl⟩
  have wd : mh_W D ks L (mh_A L0 s.heap.size) s.heap h159 H locs := by rw [eh160]; exact wd
  have R161 : mh_Rg h o h159 ((((((([] ++ [q1]) ++ q14 :: (List.range 21).map a15) ++ [q36]) ++ q63 :: (List.range 13).map a64) ++ [q91]) ++ [q116]) ++ [q143]) := by rw [eh160]; exact R147.set
  have ob162 : h159 o = some (.inr (12, [.int 0, .ref q1, .ref q14, .int 0, .int 0, .int 0, .ref q36, .int (-1), .ref q63, .ref q91, .ref q116, .ref q143, .null, .null, .int 0, .int 0, .int 0, .null, .null, .null, .null, .null, .int 0, .int 0, .null, .null, .int 0, .int 0, .int 0, .null, .null, .null, .null, .null, .null, .null, .null, .null])) := by rw [eh160]; exact mh_up_eq _ _ _
  have f163 : h159 q1 = some (mh_Ni 304) := by rw [eh160, mh_up_ne n6]; exact f150
  have f164 : h159 q14 = some (.inl (5, 21, .inr (.inr (.inr (.inr (fun i => if i < 21 then some (a15 i) else none)))))) := by rw [eh160, mh_up_ne n22]; exact f151
  have f165 : ∀ i, i < 21 → h159 (a15 i) = some (.inl (0, (304, .inl (fun _ => 0)))) := fun i hi => by rw [eh160, mh_up_ne (n23 i hi)]; exact f152 i hi
  have f166 : h159 q36 = some (mh_Ni 12) := by rw [eh160, mh_up_ne n41]; exact f153
  have f167 : h159 q63 = some (.inl (5, 13, .inr (.inr (.inr (.inr (fun i => if i < 13 then some (a64 i) else none)))))) := by rw [eh160, mh_up_ne n71]; exact f154
  have f168 : ∀ i, i < 13 → h159 (a64 i) = some (.inl (0, (100301, .inl (fun _ => 0)))) := fun i hi => by rw [eh160, mh_up_ne (n72 i hi)]; exact f155 i hi
  have f169 : h159 q91 = some (mh_Nz 200001) := by rw [eh160, mh_up_ne n96]; exact f156
  have f170 : h159 q116 = some (mh_Nz 200001) := by rw [eh160, mh_up_ne n121]; exact f157
  have f171 : h159 q143 = some (mh_Nz 200001) := by rw [eh160, mh_up_ne n148]; exact f158
  refine lv_aload_n hx hb dX12_init_75 rfl (lv_at hl 0 rfl) ?_
  refine lv_bipush (v := 13) hx hb dX12_init_76 (by decide) ?_
  refine lv_sipush (v := 3001) hx hb dX12_init_78 (by decide) ?_
  refine mh_nwm cx wd 6 1 (ty := .long) (N' := 13) (K' := 3001) (z := (3001, .inr (.inl (fun _ => 0)))) rfl (cx.2.1.2 1 _ rfl).2 ao.2.2.2 (mh_in 1215 (by decide +kernel) (by decide +kernel)) wo_long (by decide) (by decide) rfl rfl (by decide) (by decide) (by decide) rfl rfl (Nat.le_of_ble_eq_true rfl) (Nat.le_of_ble_eq_true rfl) (mh_inJ 3001) dX12_init_81 (fun q172 a173 L H e174 e175 e176 wd => ?_)
  obtain ⟨h177, eh178⟩ : ∃ x, x = mh_rws h159 q172 (.inl (6, 13, .inr (.inr (.inr (.inr (fun i => if i < 13 then some (a173 i) else none)))))) ((List.range 13).map a173) (.inl (1, (3001, .inr (.inl (fun _ => 0))))) := ⟨_, rfl⟩
  rw [← eh178] at wd
  have R179 : mh_Rg h o h177 (((((((([] ++ [q1]) ++ q14 :: (List.range 21).map a15) ++ [q36]) ++ q63 :: (List.range 13).map a64) ++ [q91]) ++ [q116]) ++ [q143]) ++ q172 :: (List.range 13).map a173) := by rw [eh178]; exact R161.rows e174 e175 e176
  have n180 : q172 ≠ o := fun z => by rw [z, ob162] at e174; cases e174
  have n181 : ∀ i, i < 13 → a173 i ≠ o := fun i hi z => by have w := (e175 i hi).1; rw [z, ob162] at w; cases w
  have k182 : ∀ b, h159 b ≠ none → h177 b = h159 b := fun b hb => by rw [eh178]; exact mh_rws_ne (fun z => hb (by rw [z]; exact e174)) (fun i hi z => hb (by rw [z]; exact (e175 i hi).1))
  have ob183 : h177 o = some (.inr (12, [.int 0, .ref q1, .ref q14, .int 0, .int 0, .int 0, .ref q36, .int (-1), .ref q63, .ref q91, .ref q116, .ref q143, .null, .null, .int 0, .int 0, .int 0, .null, .null, .null, .null, .null, .int 0, .int 0, .null, .null, .int 0, .int 0, .int 0, .null, .null, .null, .null, .null, .null, .null, .null, .null])) := (k182 o (by rw [ob162]; exact fun z => by cases z)).trans ob162
  have f184 : h177 q1 = some (mh_Ni 304) := (k182 _ (by rw [f163]; exact fun z => by cases z)).trans f163
  have f185 : h177 q14 = some (.inl (5, 21, .inr (.inr (.inr (.inr (fun i => if i < 21 then some (a15 i) else none)))))) := (k182 _ (by rw [f164]; exact fun z => by cases z)).trans f164
  have f186 : ∀ i, i < 21 → h177 (a15 i) = some (.inl (0, (304, .inl (fun _ => 0)))) := fun i hi => (k182 _ (by rw [f165 i hi]; exact fun z => by cases z)).trans (f165 i hi)
  have f187 : h177 q36 = some (mh_Ni 12) := (k182 _ (by rw [f166]; exact fun z => by cases z)).trans f166
  have f188 : h177 q63 = some (.inl (5, 13, .inr (.inr (.inr (.inr (fun i => if i < 13 then some (a64 i) else none)))))) := (k182 _ (by rw [f167]; exact fun z => by cases z)).trans f167
  have f189 : ∀ i, i < 13 → h177 (a64 i) = some (.inl (0, (100301, .inl (fun _ => 0)))) := fun i hi => (k182 _ (by rw [f168 i hi]; exact fun z => by cases z)).trans (f168 i hi)
  have f190 : h177 q91 = some (mh_Nz 200001) := (k182 _ (by rw [f169]; exact fun z => by cases z)).trans f169
  have f191 : h177 q116 = some (mh_Nz 200001) := (k182 _ (by rw [f170]; exact fun z => by cases z)).trans f170
  have f192 : h177 q143 = some (mh_Nz 200001) := (k182 _ (by rw [f171]; exact fun z => by cases z)).trans f171
  have f193 : h177 q172 = some (.inl (6, 13, .inr (.inr (.inr (.inr (fun i => if i < 13 then some (a173 i) else none)))))) := by rw [eh178]; exact if_pos rfl
  have f194 : ∀ i, i < 13 → h177 (a173 i) = some (.inl (1, (3001, .inr (.inl (fun _ => 0))))) := fun i hi => by rw [eh178]; exact mh_rws_in (e175 i hi).2 hi
  refine mh_putF cx wd hin (ci := 12) (k := 12) (C := RX12) (T := TX12) (N := 38) (ty0 := tyX12) (ty := (.array (.array .long))) ob183 rfl (by decide) uw_X12 (mh_in 1228 (by decide +kernel) (by decide +kernel)) tyX12_ok nmX12 rfl rfl (by decide +kernel) rfl rfl (Nat.le_of_ble_eq_true rfl) dX12_init_85 (fun H locs wd => ?_)
  obtain ⟨h195, eh196⟩ : ∃ x, x = mh_up h177 o (.inr (12, [.int 0, .ref q1, .ref q14, .int 0, .int 0, .int 0, .ref q36, .int (-1), .ref q63, .ref q91, .ref q116, .ref q143, .ref q172, .null, .int 0, .int 0, .int 0, .null, .null, .null, .null, .null, .int 0, .int 0, .null, .null, .int 0, .int 0, .int 0, .null, .null, .null, .null, .null, .null, .null, .null, .null])) := ⟨_, rfl⟩
  have wd : mh_W D ks L (mh_A L0 s.heap.size) s.heap h195 H locs := by rw [eh196]; exact wd
  have R197 : mh_Rg h o h195 (((((((([] ++ [q1]) ++ q14 :: (List.range 21).map a15) ++ [q36]) ++ q63 :: (List.range 13).map a64) ++ [q91]) ++ [q116]) ++ [q143]) ++ q172 :: (List.range 13).map a173) := by rw [eh196]; exact R179.set
  have ob198 : h195 o = some (.inr (12, [.int 0, .ref q1, .ref q14, .int 0, .int 0, .int 0, .ref q36, .int (-1), .ref q63, .ref q91, .ref q116, .ref q143, .ref q172, .null, .int 0, .int 0, .int 0, .null, .null, .null, .null, .null, .int 0, .int 0, .null, .null, .int 0, .int 0, .int 0, .null, .null, .null, .null, .null, .null, .null, .null, .null])) := by rw [eh196]; exact mh_up_eq _ _ _
  have f199 : h195 q1 = some (mh_Ni 304) := by rw [eh196, mh_up_ne n6]; exact f184
  have f200 : h195 q14 = some (.inl (5, 21, .inr (.inr (.inr (.inr (fun i => if i < 21 then some (a15 i) else none)))))) := by rw [eh196, mh_up_ne n22]; exact f185
  have f201 : ∀ i, i < 21 → h195 (a15 i) = some (.inl (0, (304, .inl (fun _ => 0)))) := fun i hi => by rw [eh196, mh_up_ne (n23 i hi)]; exact f186 i hi
  have f202 : h195 q36 = some (mh_Ni 12) := by rw [eh196, mh_up_ne n41]; exact f187
  have f203 : h195 q63 = some (.inl (5, 13, .inr (.inr (.inr (.inr (fun i => if i < 13 then some (a64 i) else none)))))) := by rw [eh196, mh_up_ne n71]; exact f188
  have f204 : ∀ i, i < 13 → h195 (a64 i) = some (.inl (0, (100301, .inl (fun _ => 0)))) := fun i hi => by rw [eh196, mh_up_ne (n72 i hi)]; exact f189 i hi
  have f205 : h195 q91 = some (mh_Nz 200001) := by rw [eh196, mh_up_ne n96]; exact f190
  have f206 : h195 q116 = some (mh_Nz 200001) := by rw [eh196, mh_up_ne n121]; exact f191
  have f207 : h195 q143 = some (mh_Nz 200001) := by rw [eh196, mh_up_ne n148]; exact f192
  have f208 : h195 q172 = some (.inl (6, 13, .inr (.inr (.inr (.inr (fun i => if i < 13 then some (a173 i) else none)))))) := by rw [eh196, mh_up_ne n180]; exact f193
  have f209 : ∀ i, i < 13 → h195 (a173 i) = some (.inl (1, (3001, .inr (.inl (fun _ => 0))))) := fun i hi => by rw [eh196, mh_up_ne (n181 i hi)]; exact f194 i hi
  refine lv_aload_n hx hb dX12_init_88 rfl (lv_at hl 0 rfl) ?_
  refine lv_bipush (v := 24) hx hb dX12_init_89 (by decide) ?_
  refine mh_nwi (N' := 24) cx wd wo_int (by decide) rfl (by decide) (Nat.le_of_ble_eq_true rfl) (Nat.le_of_ble_eq_true rfl) dX12_init_91 (fun q210 L H e211 wd => ?_)
  obtain ⟨h212, eh213⟩ : ∃ x, x = mh_up h195 q210 (mh_Ni 24) := ⟨_, rfl⟩
  rw [← eh213] at wd
  have R214 : mh_Rg h o h212 ((((((((([] ++ [q1]) ++ q14 :: (List.range 21).map a15) ++ [q36]) ++ q63 :: (List.range 13).map a64) ++ [q91]) ++ [q116]) ++ [q143]) ++ q172 :: (List.range 13).map a173) ++ [q210]) := by rw [eh213]; exact R197.add e211
  have n215 : q210 ≠ o := fun z => by rw [z, ob198] at e211; cases e211
  have ob216 : h212 o = some (.inr (12, [.int 0, .ref q1, .ref q14, .int 0, .int 0, .int 0, .ref q36, .int (-1), .ref q63, .ref q91, .ref q116, .ref q143, .ref q172, .null, .int 0, .int 0, .int 0, .null, .null, .null, .null, .null, .int 0, .int 0, .null, .null, .int 0, .int 0, .int 0, .null, .null, .null, .null, .null, .null, .null, .null, .null])) := by rw [eh213, mh_up_ne (fun z => n215 z.symm)]; exact ob198
  have n_q1_q210 : q1 ≠ q210 := fun z => by rw [z, e211] at f199; cases f199
  have f217 : h212 q1 = some (mh_Ni 304) := by rw [eh213, mh_up_ne n_q1_q210]; exact f199
  have n_q14_q210 : q14 ≠ q210 := fun z => by rw [z, e211] at f200; cases f200
  have f218 : h212 q14 = some (.inl (5, 21, .inr (.inr (.inr (.inr (fun i => if i < 21 then some (a15 i) else none)))))) := by rw [eh213, mh_up_ne n_q14_q210]; exact f200
  have n_a15_q210 : ∀ i, i < 21 → a15 i ≠ q210 := fun i hi z => by have w := f201 i hi; rw [z, e211] at w; cases w
  have f219 : ∀ i, i < 21 → h212 (a15 i) = some (.inl (0, (304, .inl (fun _ => 0)))) := fun i hi => by rw [eh213, mh_up_ne (n_a15_q210 i hi)]; exact f201 i hi
  have n_q36_q210 : q36 ≠ q210 := fun z => by rw [z, e211] at f202; cases f202
  have f220 : h212 q36 = some (mh_Ni 12) := by rw [eh213, mh_up_ne n_q36_q210]; exact f202
  have n_q63_q210 : q63 ≠ q210 := fun z => by rw [z, e211] at f203; cases f203
  have f221 : h212 q63 = some (.inl (5, 13, .inr (.inr (.inr (.inr (fun i => if i < 13 then some (a64 i) else none)))))) := by rw [eh213, mh_up_ne n_q63_q210]; exact f203
  have n_a64_q210 : ∀ i, i < 13 → a64 i ≠ q210 := fun i hi z => by have w := f204 i hi; rw [z, e211] at w; cases w
  have f222 : ∀ i, i < 13 → h212 (a64 i) = some (.inl (0, (100301, .inl (fun _ => 0)))) := fun i hi => by rw [eh213, mh_up_ne (n_a64_q210 i hi)]; exact f204 i hi
  have n_q91_q210 : q91 ≠ q210 := fun z => by rw [z, e211] at f205; cases f205
  have f223 : h212 q91 = some (mh_Nz 200001) := by rw [eh213, mh_up_ne n_q91_q210]; exact f205
  have n_q116_q210 : q116 ≠ q210 := fun z => by rw [z, e211] at f206; cases f206
  have f224 : h212 q116 = some (mh_Nz 200001) := by rw [eh213, mh_up_ne n_q116_q210]; exact f206
  have n_q143_q210 : q143 ≠ q210 := fun z => by rw [z, e211] at f207; cases f207
  have f225 : h212 q143 = some (mh_Nz 200001) := by rw [eh213, mh_up_ne n_q143_q210]; exact f207
  have n_q172_q210 : q172 ≠ q210 := fun z => by rw [z, e211] at f208; cases f208
  have f226 : h212 q172 = some (.inl (6, 13, .inr (.inr (.inr (.inr (fun i => if i < 13 then some (a173 i) else none)))))) := by rw [eh213, mh_up_ne n_q172_q210]; exact f208
  have n_a173_q210 : ∀ i, i < 13 → a173 i ≠ q210 := fun i hi z => by have w := f209 i hi; rw [z, e211] at w; cases w
  have f227 : ∀ i, i < 13 → h212 (a173 i) = some (.inl (1, (3001, .inr (.inl (fun _ => 0))))) := fun i hi => by rw [eh213, mh_up_ne (n_a173_q210 i hi)]; exact f209 i hi
  have f228 : h212 q210 = some (mh_Ni 24) := by rw [eh213]; exact mh_up_eq _ _ _
  refine mh_putF cx wd hin (ci := 12) (k := 13) (C := RX12) (T := TX12) (N := 38) (ty0 := tyX12) (ty := (.array .int)) ob216 rfl (by decide) uw_X12 (mh_in 1229 (by decide +kernel) (by decide +kernel)) tyX12_ok nmX12 rfl rfl (by decide +kernel) rfl rfl (Nat.le_of_ble_eq_true rfl) dX12_init_93 (fun H locs wd => ?_)
  obtain ⟨h229, eh230⟩ : ∃ x, x = mh_up h212 o (.inr (12, [.int 0, .ref q1, .ref q14, .int 0, .int 0, .int 0, .ref q36, .int (-1), .ref q63, .ref q91, .ref q116, .ref q143, .ref q172, .ref q210, .int 0, .int 0, .int 0, .null, .null, .null, .null, .null, .int 0, .int 0, .null, .null, .int 0, .int 0, .int 0, .null, .null, .null, .null, .null, .null, .null, .null, .null])) := ⟨_, rfl⟩
  have wd : mh_W D ks L (mh_A L0 s.heap.size) s.heap h229 H locs := by rw [eh230]; exact wd
  have R231 : mh_Rg h o h229 ((((((((([] ++ [q1]) ++ q14 :: (List.range 21).map a15) ++ [q36]) ++ q63 :: (List.range 13).map a64) ++ [q91]) ++ [q116]) ++ [q143]) ++ q172 :: (List.range 13).map a173) ++ [q210]) := by rw [eh230]; exact R214.set
  have ob232 : h229 o = some (.inr (12, [.int 0, .ref q1, .ref q14, .int 0, .int 0, .int 0, .ref q36, .int (-1), .ref q63, .ref q91, .ref q116, .ref q143, .ref q172, .ref q210, .int 0, .int 0, .int 0, .null, .null, .null, .null, .null, .int 0, .int 0, .null, .null, .int 0, .int 0, .int 0, .null, .null, .null, .null, .null, .null, .null, .null, .null])) := by rw [eh230]; exact mh_up_eq _ _ _
  have f233 : h229 q1 = some (mh_Ni 304) := by rw [eh230, mh_up_ne n6]; exact f217
  have f234 : h229 q14 = some (.inl (5, 21, .inr (.inr (.inr (.inr (fun i => if i < 21 then some (a15 i) else none)))))) := by rw [eh230, mh_up_ne n22]; exact f218
  have f235 : ∀ i, i < 21 → h229 (a15 i) = some (.inl (0, (304, .inl (fun _ => 0)))) := fun i hi => by rw [eh230, mh_up_ne (n23 i hi)]; exact f219 i hi
  have f236 : h229 q36 = some (mh_Ni 12) := by rw [eh230, mh_up_ne n41]; exact f220
  have f237 : h229 q63 = some (.inl (5, 13, .inr (.inr (.inr (.inr (fun i => if i < 13 then some (a64 i) else none)))))) := by rw [eh230, mh_up_ne n71]; exact f221
  have f238 : ∀ i, i < 13 → h229 (a64 i) = some (.inl (0, (100301, .inl (fun _ => 0)))) := fun i hi => by rw [eh230, mh_up_ne (n72 i hi)]; exact f222 i hi
  have f239 : h229 q91 = some (mh_Nz 200001) := by rw [eh230, mh_up_ne n96]; exact f223
  have f240 : h229 q116 = some (mh_Nz 200001) := by rw [eh230, mh_up_ne n121]; exact f224
  have f241 : h229 q143 = some (mh_Nz 200001) := by rw [eh230, mh_up_ne n148]; exact f225
  have f242 : h229 q172 = some (.inl (6, 13, .inr (.inr (.inr (.inr (fun i => if i < 13 then some (a173 i) else none)))))) := by rw [eh230, mh_up_ne n180]; exact f226
  have f243 : ∀ i, i < 13 → h229 (a173 i) = some (.inl (1, (3001, .inr (.inl (fun _ => 0))))) := fun i hi => by rw [eh230, mh_up_ne (n181 i hi)]; exact f227 i hi
  have f244 : h229 q210 = some (mh_Ni 24) := by rw [eh230, mh_up_ne n215]; exact f228
  refine lv_aload_n hx hb dX12_init_96 rfl (lv_at hl 0 rfl) ?_
  refine lv_bipush (v := 12) hx hb dX12_init_97 (by decide) ?_
  refine mh_nwi (N' := 12) cx wd wo_int (by decide) rfl (by decide) (Nat.le_of_ble_eq_true rfl) (Nat.le_of_ble_eq_true rfl) dX12_init_99 (fun q245 L H e246 wd => ?_)
  obtain ⟨h247, eh248⟩ : ∃ x, x = mh_up h229 q245 (mh_Ni 12) := ⟨_, rfl⟩
  rw [← eh248] at wd
  have R249 : mh_Rg h o h247 (((((((((([] ++ [q1]) ++ q14 :: (List.range 21).map a15) ++ [q36]) ++ q63 :: (List.range 13).map a64) ++ [q91]) ++ [q116]) ++ [q143]) ++ q172 :: (List.range 13).map a173) ++ [q210]) ++ [q245]) := by rw [eh248]; exact R231.add e246
  have n250 : q245 ≠ o := fun z => by rw [z, ob232] at e246; cases e246
  have ob251 : h247 o = some (.inr (12, [.int 0, .ref q1, .ref q14, .int 0, .int 0, .int 0, .ref q36, .int (-1), .ref q63, .ref q91, .ref q116, .ref q143, .ref q172, .ref q210, .int 0, .int 0, .int 0, .null, .null, .null, .null, .null, .int 0, .int 0, .null, .null, .int 0, .int 0, .int 0, .null, .null, .null, .null, .null, .null, .null, .null, .null])) := by rw [eh248, mh_up_ne (fun z => n250 z.symm)]; exact ob232
  have n_q1_q245 : q1 ≠ q245 := fun z => by rw [z, e246] at f233; cases f233
  have f252 : h247 q1 = some (mh_Ni 304) := by rw [eh248, mh_up_ne n_q1_q245]; exact f233
  have n_q14_q245 : q14 ≠ q245 := fun z => by rw [z, e246] at f234; cases f234
  have f253 : h247 q14 = some (.inl (5, 21, .inr (.inr (.inr (.inr (fun i => if i < 21 then some (a15 i) else none)))))) := by rw [eh248, mh_up_ne n_q14_q245]; exact f234
  have n_a15_q245 : ∀ i, i < 21 → a15 i ≠ q245 := fun i hi z => by have w := f235 i hi; rw [z, e246] at w; cases w
  have f254 : ∀ i, i < 21 → h247 (a15 i) = some (.inl (0, (304, .inl (fun _ => 0)))) := fun i hi => by rw [eh248, mh_up_ne (n_a15_q245 i hi)]; exact f235 i hi
  have n_q36_q245 : q36 ≠ q245 := fun z => by rw [z, e246] at f236; cases f236
  have f255 : h247 q36 = some (mh_Ni 12) := by rw [eh248, mh_up_ne n_q36_q245]; exact f236
  have n_q63_q245 : q63 ≠ q245 := fun z => by rw [z, e246] at f237; cases f237
  have f256 : h247 q63 = some (.inl (5, 13, .inr (.inr (.inr (.inr (fun i => if i < 13 then some (a64 i) else none)))))) := by rw [eh248, mh_up_ne n_q63_q245]; exact f237
  have n_a64_q245 : ∀ i, i < 13 → a64 i ≠ q245 := fun i hi z => by have w := f238 i hi; rw [z, e246] at w; cases w
  have f257 : ∀ i, i < 13 → h247 (a64 i) = some (.inl (0, (100301, .inl (fun _ => 0)))) := fun i hi => by rw [eh248, mh_up_ne (n_a64_q245 i hi)]; exact f238 i hi
  have n_q91_q245 : q91 ≠ q245 := fun z => by rw [z, e246] at f239; cases f239
  have f258 : h247 q91 = some (mh_Nz 200001) := by rw [eh248, mh_up_ne n_q91_q245]; exact f239
  have n_q116_q245 : q116 ≠ q245 := fun z => by rw [z, e246] at f240; cases f240
  have f259 : h247 q116 = some (mh_Nz 200001) := by rw [eh248, mh_up_ne n_q116_q245]; exact f240
  have n_q143_q245 : q143 ≠ q245 := fun z => by rw [z, e246] at f241; cases f241
  have f260 : h247 q143 = some (mh_Nz 200001) := by rw [eh248, mh_up_ne n_q143_q245]; exact f241
  have n_q172_q245 : q172 ≠ q245 := fun z => by rw [z, e246] at f242; cases f242
  have f261 : h247 q172 = some (.inl (6, 13, .inr (.inr (.inr (.inr (fun i => if i < 13 then some (a173 i) else none)))))) := by rw [eh248, mh_up_ne n_q172_q245]; exact f242
  have n_a173_q245 : ∀ i, i < 13 → a173 i ≠ q245 := fun i hi z => by have w := f243 i hi; rw [z, e246] at w; cases w
  have f262 : ∀ i, i < 13 → h247 (a173 i) = some (.inl (1, (3001, .inr (.inl (fun _ => 0))))) := fun i hi => by rw [eh248, mh_up_ne (n_a173_q245 i hi)]; exact f243 i hi
  have n_q210_q245 : q210 ≠ q245 := fun z => by rw [z, e246] at f244; cases f244
  have f263 : h247 q210 = some (mh_Ni 24) := by rw [eh248, mh_up_ne n_q210_q245]; exact f244
  have f264 : h247 q245 = some (mh_Ni 12) := by rw [eh248]; exact mh_up_eq _ _ _
  refine mh_putF cx wd hin (ci := 12) (k := 17) (C := RX12) (T := TX12) (N := 38) (ty0 := tyX12) (ty := (.array .int)) ob251 rfl (by decide) uw_X12 (mh_in 1233 (by decide +kernel) (by decide +kernel)) tyX12_ok nmX12 rfl rfl (by decide +kernel) rfl rfl (Nat.le_of_ble_eq_true rfl) dX12_init_101 (fun H locs wd => ?_)
  obtain ⟨h265, eh266⟩ : ∃ x, x = mh_up h247 o (.inr (12, [.int 0, .ref q1, .ref q14, .int 0, .int 0, .int 0, .ref q36, .int (-1), .ref q63, .ref q91, .ref q116, .ref q143, .ref q172, .ref q210, .int 0, .int 0, .int 0, .ref q245, .null, .null, .null, .null, .int 0, .int 0, .null, .null, .int 0, .int 0, .int 0, .null, .null, .null, .null, .null, .null, .null, .null, .null])) := ⟨_, rfl⟩
  have wd : mh_W D ks L (mh_A L0 s.heap.size) s.heap h265 H locs := by rw [eh266]; exact wd
  have R267 : mh_Rg h o h265 (((((((((([] ++ [q1]) ++ q14 :: (List.range 21).map a15) ++ [q36]) ++ q63 :: (List.range 13).map a64) ++ [q91]) ++ [q116]) ++ [q143]) ++ q172 :: (List.range 13).map a173) ++ [q210]) ++ [q245]) := by rw [eh266]; exact R249.set
  have ob268 : h265 o = some (.inr (12, [.int 0, .ref q1, .ref q14, .int 0, .int 0, .int 0, .ref q36, .int (-1), .ref q63, .ref q91, .ref q116, .ref q143, .ref q172, .ref q210, .int 0, .int 0, .int 0, .ref q245, .null, .null, .null, .null, .int 0, .int 0, .null, .null, .int 0, .int 0, .int 0, .null, .null, .null, .null, .null, .null, .null, .null, .null])) := by rw [eh266]; exact mh_up_eq _ _ _
  have f269 : h265 q1 = some (mh_Ni 304) := by rw [eh266, mh_up_ne n6]; exact f252
  have f270 : h265 q14 = some (.inl (5, 21, .inr (.inr (.inr (.inr (fun i => if i < 21 then some (a15 i) else none)))))) := by rw [eh266, mh_up_ne n22]; exact f253
  have f271 : ∀ i, i < 21 → h265 (a15 i) = some (.inl (0, (304, .inl (fun _ => 0)))) := fun i hi => by rw [eh266, mh_up_ne (n23 i hi)]; exact f254 i hi
  have f272 : h265 q36 = some (mh_Ni 12) := by rw [eh266, mh_up_ne n41]; exact f255
  have f273 : h265 q63 = some (.inl (5, 13, .inr (.inr (.inr (.inr (fun i => if i < 13 then some (a64 i) else none)))))) := by rw [eh266, mh_up_ne n71]; exact f256
  have f274 : ∀ i, i < 13 → h265 (a64 i) = some (.inl (0, (100301, .inl (fun _ => 0)))) := fun i hi => by rw [eh266, mh_up_ne (n72 i hi)]; exact f257 i hi
  have f275 : h265 q91 = some (mh_Nz 200001) := by rw [eh266, mh_up_ne n96]; exact f258
  have f276 : h265 q116 = some (mh_Nz 200001) := by rw [eh266, mh_up_ne n121]; exact f259
  have f277 : h265 q143 = some (mh_Nz 200001) := by rw [eh266, mh_up_ne n148]; exact f260
  have f278 : h265 q172 = some (.inl (6, 13, .inr (.inr (.inr (.inr (fun i => if i < 13 then some (a173 i) else none)))))) := by rw [eh266, mh_up_ne n180]; exact f261
  have f279 : ∀ i, i < 13 → h265 (a173 i) = some (.inl (1, (3001, .inr (.inl (fun _ => 0))))) := fun i hi => by rw [eh266, mh_up_ne (n181 i hi)]; exact f262 i hi
  have f280 : h265 q210 = some (mh_Ni 24) := by rw [eh266, mh_up_ne n215]; exact f263
  have f281 : h265 q245 = some (mh_Ni 12) := by rw [eh266, mh_up_ne n250]; exact f264
  refine lv_aload_n hx hb dX12_init_104 rfl (lv_at hl 0 rfl) ?_
  refine lv_bipush (v := 12) hx hb dX12_init_105 (by decide) ?_
  refine mh_nwi (N' := 12) cx wd wo_int (by decide) rfl (by decide) (Nat.le_of_ble_eq_true rfl) (Nat.le_of_ble_eq_true rfl) dX12_init_107 (fun q282 L H e283 wd => ?_)
  obtain ⟨h284, eh285⟩ : ∃ x, x = mh_up h265 q282 (mh_Ni 12) := ⟨_, rfl⟩
  rw [← eh285] at wd
  have R286 : mh_Rg h o h284 ((((((((((([] ++ [q1]) ++ q14 :: (List.range 21).map a15) ++ [q36]) ++ q63 :: (List.range 13).map a64) ++ [q91]) ++ [q116]) ++ [q143]) ++ q172 :: (List.range 13).map a173) ++ [q210]) ++ [q245]) ++ [q282]) := by rw [eh285]; exact R267.add e283
  have n287 : q282 ≠ o := fun z => by rw [z, ob268] at e283; cases e283
  have ob288 : h284 o = some (.inr (12, [.int 0, .ref q1, .ref q14, .int 0, .int 0, .int 0, .ref q36, .int (-1), .ref q63, .ref q91, .ref q116, .ref q143, .ref q172, .ref q210, .int 0, .int 0, .int 0, .ref q245, .null, .null, .null, .null, .int 0, .int 0, .null, .null, .int 0, .int 0, .int 0, .null, .null, .null, .null, .null, .null, .null, .null, .null])) := by rw [eh285, mh_up_ne (fun z => n287 z.symm)]; exact ob268
  have n_q1_q282 : q1 ≠ q282 := fun z => by rw [z, e283] at f269; cases f269
  have f289 : h284 q1 = some (mh_Ni 304) := by rw [eh285, mh_up_ne n_q1_q282]; exact f269
  have n_q14_q282 : q14 ≠ q282 := fun z => by rw [z, e283] at f270; cases f270
  have f290 : h284 q14 = some (.inl (5, 21, .inr (.inr (.inr (.inr (fun i => if i < 21 then some (a15 i) else none)))))) := by rw [eh285, mh_up_ne n_q14_q282]; exact f270
  have n_a15_q282 : ∀ i, i < 21 → a15 i ≠ q282 := fun i hi z => by have w := f271 i hi; rw [z, e283] at w; cases w
  have f291 : ∀ i, i < 21 → h284 (a15 i) = some (.inl (0, (304, .inl (fun _ => 0)))) := fun i hi => by rw [eh285, mh_up_ne (n_a15_q282 i hi)]; exact f271 i hi
  have n_q36_q282 : q36 ≠ q282 := fun z => by rw [z, e283] at f272; cases f272
  have f292 : h284 q36 = some (mh_Ni 12) := by rw [eh285, mh_up_ne n_q36_q282]; exact f272
  have n_q63_q282 : q63 ≠ q282 := fun z => by rw [z, e283] at f273; cases f273
  have f293 : h284 q63 = some (.inl (5, 13, .inr (.inr (.inr (.inr (fun i => if i < 13 then some (a64 i) else none)))))) := by rw [eh285, mh_up_ne n_q63_q282]; exact f273
  have n_a64_q282 : ∀ i, i < 13 → a64 i ≠ q282 := fun i hi z => by have w := f274 i hi; rw [z, e283] at w; cases w
  have f294 : ∀ i, i < 13 → h284 (a64 i) = some (.inl (0, (100301, .inl (fun _ => 0)))) := fun i hi => by rw [eh285, mh_up_ne (n_a64_q282 i hi)]; exact f274 i hi
  have n_q91_q282 : q91 ≠ q282 := fun z => by rw [z, e283] at f275; cases f275
  have f295 : h284 q91 = some (mh_Nz 200001) := by rw [eh285, mh_up_ne n_q91_q282]; exact f275
  have n_q116_q282 : q116 ≠ q282 := fun z => by rw [z, e283] at f276; cases f276
  have f296 : h284 q116 = some (mh_Nz 200001) := by rw [eh285, mh_up_ne n_q116_q282]; exact f276
  have n_q143_q282 : q143 ≠ q282 := fun z => by rw [z, e283] at f277; cases f277
  have f297 : h284 q143 = some (mh_Nz 200001) := by rw [eh285, mh_up_ne n_q143_q282]; exact f277
  have n_q172_q282 : q172 ≠ q282 := fun z => by rw [z, e283] at f278; cases f278
  have f298 : h284 q172 = some (.inl (6, 13, .inr (.inr (.inr (.inr (fun i => if i < 13 then some (a173 i) else none)))))) := by rw [eh285, mh_up_ne n_q172_q282]; exact f278
  have n_a173_q282 : ∀ i, i < 13 → a173 i ≠ q282 := fun i hi z => by have w := f279 i hi; rw [z, e283] at w; cases w
  have f299 : ∀ i, i < 13 → h284 (a173 i) = some (.inl (1, (3001, .inr (.inl (fun _ => 0))))) := fun i hi => by rw [eh285, mh_up_ne (n_a173_q282 i hi)]; exact f279 i hi
  have n_q210_q282 : q210 ≠ q282 := fun z => by rw [z, e283] at f280; cases f280
  have f300 : h284 q210 = some (mh_Ni 24) := by rw [eh285, mh_up_ne n_q210_q282]; exact f280
  have n_q245_q282 : q245 ≠ q282 := fun z => by rw [z, e283] at f281; cases f281
  have f301 : h284 q245 = some (mh_Ni 12) := by rw [eh285, mh_up_ne n_q245_q282]; exact f281
  have f302 : h284 q282 = some (mh_Ni 12) := by rw [eh285]; exact mh_up_eq _ _ _
  refine mh_putF cx wd hin (ci := 12) (k := 18) (C := RX12) (T := TX12) (N := 38) (ty0 := tyX12) (ty := (.array .int)) ob288 rfl (by decide) uw_X12 (mh_in 1234 (by decide +kernel) (by decide +kernel)) tyX12_ok nmX12 rfl rfl (by decide +kernel) rfl rfl (Nat.le_of_ble_eq_true rfl) dX12_init_109 (fun H locs wd => ?_)
  obtain ⟨h303, eh304⟩ : ∃ x, x = mh_up h284 o (.inr (12, [.int 0, .ref q1, .ref q14, .int 0, .int 0, .int 0, .ref q36, .int (-1), .ref q63, .ref q91, .ref q116, .ref q143, .ref q172, .ref q210, .int 0, .int 0, .int 0, .ref q245, .ref q282, .null, .null, .null, .int 0, .int 0, .null, .null, .int 0, .int 0, .int 0, .null, .null, .null, .null, .null, .null, .null, .null, .null])) := ⟨_, rfl⟩
  have wd : mh_W D ks L (mh_A L0 s.heap.size) s.heap h303 H locs := by rw [eh304]; exact wd
  have R305 : mh_Rg h o h303 ((((((((((([] ++ [q1]) ++ q14 :: (List.range 21).map a15) ++ [q36]) ++ q63 :: (List.range 13).map a64) ++ [q91]) ++ [q116]) ++ [q143]) ++ q172 :: (List.range 13).map a173) ++ [q210]) ++ [q245]) ++ [q282]) := by rw [eh304]; exact R286.set
  have ob306 : h303 o = some (.inr (12, [.int 0, .ref q1, .ref q14, .int 0, .int 0, .int 0, .ref q36, .int (-1), .ref q63, .ref q91, .ref q116, .ref q143, .ref q172, .ref q210, .int 0, .int 0, .int 0, .ref q245, .ref q282, .null, .null, .null, .int 0, .int 0, .null, .null, .int 0, .int 0, .int 0, .null, .null, .null, .null, .null, .null, .null, .null, .null])) := by rw [eh304]; exact mh_up_eq _ _ _
  have f307 : h303 q1 = some (mh_Ni 304) := by rw [eh304, mh_up_ne n6]; exact f289
  have f308 : h303 q14 = some (.inl (5, 21, .inr (.inr (.inr (.inr (fun i => if i < 21 then some (a15 i) else none)))))) := by rw [eh304, mh_up_ne n22]; exact f290
  have f309 : ∀ i, i < 21 → h303 (a15 i) = some (.inl (0, (304, .inl (fun _ => 0)))) := fun i hi => by rw [eh304, mh_up_ne (n23 i hi)]; exact f291 i hi
  have f310 : h303 q36 = some (mh_Ni 12) := by rw [eh304, mh_up_ne n41]; exact f292
  have f311 : h303 q63 = some (.inl (5, 13, .inr (.inr (.inr (.inr (fun i => if i < 13 then some (a64 i) else none)))))) := by rw [eh304, mh_up_ne n71]; exact f293
  have f312 : ∀ i, i < 13 → h303 (a64 i) = some (.inl (0, (100301, .inl (fun _ => 0)))) := fun i hi => by rw [eh304, mh_up_ne (n72 i hi)]; exact f294 i hi
  have f313 : h303 q91 = some (mh_Nz 200001) := by rw [eh304, mh_up_ne n96]; exact f295
  have f314 : h303 q116 = some (mh_Nz 200001) := by rw [eh304, mh_up_ne n121]; exact f296
  have f315 : h303 q143 = some (mh_Nz 200001) := by rw [eh304, mh_up_ne n148]; exact f297
  have f316 : h303 q172 = some (.inl (6, 13, .inr (.inr (.inr (.inr (fun i => if i < 13 then some (a173 i) else none)))))) := by rw [eh304, mh_up_ne n180]; exact f298
  have f317 : ∀ i, i < 13 → h303 (a173 i) = some (.inl (1, (3001, .inr (.inl (fun _ => 0))))) := fun i hi => by rw [eh304, mh_up_ne (n181 i hi)]; exact f299 i hi
  have f318 : h303 q210 = some (mh_Ni 24) := by rw [eh304, mh_up_ne n215]; exact f300
  have f319 : h303 q245 = some (mh_Ni 12) := by rw [eh304, mh_up_ne n250]; exact f301
  have f320 : h303 q282 = some (mh_Ni 12) := by rw [eh304, mh_up_ne n287]; exact f302
  refine lv_aload_n hx hb dX12_init_112 rfl (lv_at hl 0 rfl) ?_
  refine lv_sipush (v := 2400) hx hb dX12_init_113 (by decide) ?_
  refine mh_nwi (N' := 2400) cx wd wo_int (by decide) rfl (by decide) (Nat.le_of_ble_eq_true rfl) (Nat.le_of_ble_eq_true rfl) dX12_init_116 (fun q321 L H e322 wd => ?_)
  obtain ⟨h323, eh324⟩ : ∃ x, x = mh_up h303 q321 (mh_Ni 2400) := ⟨_, rfl⟩
  rw [← eh324] at wd
  have R325 : mh_Rg h o h323 (((((((((((([] ++ [q1]) ++ q14 :: (List.range 21).map a15) ++ [q36]) ++ q63 :: (List.range 13).map a64) ++ [q91]) ++ [q116]) ++ [q143]) ++ q172 :: (List.range 13).map a173) ++ [q210]) ++ [q245]) ++ [q282]) ++ [q321]) := by rw [eh324]; exact R305.add e322
  have n326 : q321 ≠ o := fun z => by rw [z, ob306] at e322; cases e322
  have ob327 : h323 o = some (.inr (12, [.int 0, .ref q1, .ref q14, .int 0, .int 0, .int 0, .ref q36, .int (-1), .ref q63, .ref q91, .ref q116, .ref q143, .ref q172, .ref q210, .int 0, .int 0, .int 0, .ref q245, .ref q282, .null, .null, .null, .int 0, .int 0, .null, .null, .int 0, .int 0, .int 0, .null, .null, .null, .null, .null, .null, .null, .null, .null])) := by rw [eh324, mh_up_ne (fun z => n326 z.symm)]; exact ob306
  have n_q1_q321 : q1 ≠ q321 := fun z => by rw [z, e322] at f307; cases f307
  have f328 : h323 q1 = some (mh_Ni 304) := by rw [eh324, mh_up_ne n_q1_q321]; exact f307
  have n_q14_q321 : q14 ≠ q321 := fun z => by rw [z, e322] at f308; cases f308
  have f329 : h323 q14 = some (.inl (5, 21, .inr (.inr (.inr (.inr (fun i => if i < 21 then some (a15 i) else none)))))) := by rw [eh324, mh_up_ne n_q14_q321]; exact f308
  have n_a15_q321 : ∀ i, i < 21 → a15 i ≠ q321 := fun i hi z => by have w := f309 i hi; rw [z, e322] at w; cases w
  have f330 : ∀ i, i < 21 → h323 (a15 i) = some (.inl (0, (304, .inl (fun _ => 0)))) := fun i hi => by rw [eh324, mh_up_ne (n_a15_q321 i hi)]; exact f309 i hi
  have n_q36_q321 : q36 ≠ q321 := fun z => by rw [z, e322] at f310; cases f310
  have f331 : h323 q36 = some (mh_Ni 12) := by rw [eh324, mh_up_ne n_q36_q321]; exact f310
  have n_q63_q321 : q63 ≠ q321 := fun z => by rw [z, e322] at f311; cases f311
  have f332 : h323 q63 = some (.inl (5, 13, .inr (.inr (.inr (.inr (fun i => if i < 13 then some (a64 i) else none)))))) := by rw [eh324, mh_up_ne n_q63_q321]; exact f311
  have n_a64_q321 : ∀ i, i < 13 → a64 i ≠ q321 := fun i hi z => by have w := f312 i hi; rw [z, e322] at w; cases w
  have f333 : ∀ i, i < 13 → h323 (a64 i) = some (.inl (0, (100301, .inl (fun _ => 0)))) := fun i hi => by rw [eh324, mh_up_ne (n_a64_q321 i hi)]; exact f312 i hi
  have n_q91_q321 : q91 ≠ q321 := fun z => by rw [z, e322] at f313; cases f313
  have f334 : h323 q91 = some (mh_Nz 200001) := by rw [eh324, mh_up_ne n_q91_q321]; exact f313
  have n_q116_q321 : q116 ≠ q321 := fun z => by rw [z, e322] at f314; cases f314
  have f335 : h323 q116 = some (mh_Nz 200001) := by rw [eh324, mh_up_ne n_q116_q321]; exact f314
  have n_q143_q321 : q143 ≠ q321 := fun z => by rw [z, e322] at f315; cases f315
  have f336 : h323 q143 = some (mh_Nz 200001) := by rw [eh324, mh_up_ne n_q143_q321]; exact f315
  have n_q172_q321 : q172 ≠ q321 := fun z => by rw [z, e322] at f316; cases f316
  have f337 : h323 q172 = some (.inl (6, 13, .inr (.inr (.inr (.inr (fun i => if i < 13 then some (a173 i) else none)))))) := by rw [eh324, mh_up_ne n_q172_q321]; exact f316
  have n_a173_q321 : ∀ i, i < 13 → a173 i ≠ q321 := fun i hi z => by have w := f317 i hi; rw [z, e322] at w; cases w
  have f338 : ∀ i, i < 13 → h323 (a173 i) = some (.inl (1, (3001, .inr (.inl (fun _ => 0))))) := fun i hi => by rw [eh324, mh_up_ne (n_a173_q321 i hi)]; exact f317 i hi
  have n_q210_q321 : q210 ≠ q321 := fun z => by rw [z, e322] at f318; cases f318
  have f339 : h323 q210 = some (mh_Ni 24) := by rw [eh324, mh_up_ne n_q210_q321]; exact f318
  have n_q245_q321 : q245 ≠ q321 := fun z => by rw [z, e322] at f319; cases f319
  have f340 : h323 q245 = some (mh_Ni 12) := by rw [eh324, mh_up_ne n_q245_q321]; exact f319
  have n_q282_q321 : q282 ≠ q321 := fun z => by rw [z, e322] at f320; cases f320
  have f341 : h323 q282 = some (mh_Ni 12) := by rw [eh324, mh_up_ne n_q282_q321]; exact f320
  have f342 : h323 q321 = some (mh_Ni 2400) := by rw [eh324]; exact mh_up_eq _ _ _
  refine mh_putF cx wd hin (ci := 12) (k := 19) (C := RX12) (T := TX12) (N := 38) (ty0 := tyX12) (ty := (.array .int)) ob327 rfl (by decide) uw_X12 (mh_in 1235 (by decide +kernel) (by decide +kernel)) tyX12_ok nmX12 rfl rfl (by decide +kernel) rfl rfl (Nat.le_of_ble_eq_true rfl) dX12_init_118 (fun H locs wd => ?_)
  obtain ⟨h343, eh344⟩ : ∃ x, x = mh_up h323 o (.inr (12, [.int 0, .ref q1, .ref q14, .int 0, .int 0, .int 0, .ref q36, .int (-1), .ref q63, .ref q91, .ref q116, .ref q143, .ref q172, .ref q210, .int 0, .int 0, .int 0, .ref q245, .ref q282, .ref q321, .null, .null, .int 0, .int 0, .null, .null, .int 0, .int 0, .int 0, .null, .null, .null, .null, .null, .null, .null, .null, .null])) := ⟨_, rfl⟩
  have wd : mh_W D ks L (mh_A L0 s.heap.size) s.heap h343 H locs := by rw [eh344]; exact wd
  have R345 : mh_Rg h o h343 (((((((((((([] ++ [q1]) ++ q14 :: (List.range 21).map a15) ++ [q36]) ++ q63 :: (List.range 13).map a64) ++ [q91]) ++ [q116]) ++ [q143]) ++ q172 :: (List.range 13).map a173) ++ [q210]) ++ [q245]) ++ [q282]) ++ [q321]) := by rw [eh344]; exact R325.set
  have ob346 : h343 o = some (.inr (12, [.int 0, .ref q1, .ref q14, .int 0, .int 0, .int 0, .ref q36, .int (-1), .ref q63, .ref q91, .ref q116, .ref q143, .ref q172, .ref q210, .int 0, .int 0, .int 0, .ref q245, .ref q282, .ref q321, .null, .null, .int 0, .int 0, .null, .null, .int 0, .int 0, .int 0, .null, .null, .null, .null, .null, .null, .null, .null, .null])) := by rw [eh344]; exact mh_up_eq _ _ _
  have f347 : h343 q1 = some (mh_Ni 304) := by rw [eh344, mh_up_ne n6]; exact f328
  have f348 : h343 q14 = some (.inl (5, 21, .inr (.inr (.inr (.inr (fun i => if i < 21 then some (a15 i) else none)))))) := by rw [eh344, mh_up_ne n22]; exact f329
  have f349 : ∀ i, i < 21 → h343 (a15 i) = some (.inl (0, (304, .inl (fun _ => 0)))) := fun i hi => by rw [eh344, mh_up_ne (n23 i hi)]; exact f330 i hi
  have f350 : h343 q36 = some (mh_Ni 12) := by rw [eh344, mh_up_ne n41]; exact f331
  have f351 : h343 q63 = some (.inl (5, 13, .inr (.inr (.inr (.inr (fun i => if i < 13 then some (a64 i) else none)))))) := by rw [eh344, mh_up_ne n71]; exact f332
  have f352 : ∀ i, i < 13 → h343 (a64 i) = some (.inl (0, (100301, .inl (fun _ => 0)))) := fun i hi => by rw [eh344, mh_up_ne (n72 i hi)]; exact f333 i hi
  have f353 : h343 q91 = some (mh_Nz 200001) := by rw [eh344, mh_up_ne n96]; exact f334
  have f354 : h343 q116 = some (mh_Nz 200001) := by rw [eh344, mh_up_ne n121]; exact f335
  have f355 : h343 q143 = some (mh_Nz 200001) := by rw [eh344, mh_up_ne n148]; exact f336
  have f356 : h343 q172 = some (.inl (6, 13, .inr (.inr (.inr (.inr (fun i => if i < 13 then some (a173 i) else none)))))) := by rw [eh344, mh_up_ne n180]; exact f337
  have f357 : ∀ i, i < 13 → h343 (a173 i) = some (.inl (1, (3001, .inr (.inl (fun _ => 0))))) := fun i hi => by rw [eh344, mh_up_ne (n181 i hi)]; exact f338 i hi
  have f358 : h343 q210 = some (mh_Ni 24) := by rw [eh344, mh_up_ne n215]; exact f339
  have f359 : h343 q245 = some (mh_Ni 12) := by rw [eh344, mh_up_ne n250]; exact f340
  have f360 : h343 q282 = some (mh_Ni 12) := by rw [eh344, mh_up_ne n287]; exact f341
  have f361 : h343 q321 = some (mh_Ni 2400) := by rw [eh344, mh_up_ne n326]; exact f342
  refine lv_aload_n hx hb dX12_init_121 rfl (lv_at hl 0 rfl) ?_
  refine lv_bipush (v := 12) hx hb dX12_init_122 (by decide) ?_
  refine mh_nwi (N' := 12) cx wd wo_int (by decide) rfl (by decide) (Nat.le_of_ble_eq_true rfl) (Nat.le_of_ble_eq_true rfl) dX12_init_124 (fun q362 L H e363 wd => ?_)
  obtain ⟨h364, eh365⟩ : ∃ x, x = mh_up h343 q362 (mh_Ni 12) := ⟨_, rfl⟩
  rw [← eh365] at wd
  have R366 : mh_Rg h o h364 ((((((((((((([] ++ [q1]) ++ q14 :: (List.range 21).map a15) ++ [q36]) ++ q63 :: (List.range 13).map a64) ++ [q91]) ++ [q116]) ++ [q143]) ++ q172 :: (List.range 13).map a173) ++ [q210]) ++ [q245]) ++ [q282]) ++ [q321]) ++ [q362]) := by rw [eh365]; exact R345.add e363
  have n367 : q362 ≠ o := fun z => by rw [z, ob346] at e363; cases e363
  have ob368 : h364 o = some (.inr (12, [.int 0, .ref q1, .ref q14, .int 0, .int 0, .int 0, .ref q36, .int (-1), .ref q63, .ref q91, .ref q116, .ref q143, .ref q172, .ref q210, .int 0, .int 0, .int 0, .ref q245, .ref q282, .ref q321, .null, .null, .int 0, .int 0, .null, .null, .int 0, .int 0, .int 0, .null, .null, .null, .null, .null, .null, .null, .null, .null])) := by rw [eh365, mh_up_ne (fun z => n367 z.symm)]; exact ob346
  have n_q1_q362 : q1 ≠ q362 := fun z => by rw [z, e363] at f347; cases f347
  have f369 : h364 q1 = some (mh_Ni 304) := by rw [eh365, mh_up_ne n_q1_q362]; exact f347
  have n_q14_q362 : q14 ≠ q362 := fun z => by rw [z, e363] at f348; cases f348
  have f370 : h364 q14 = some (.inl (5, 21, .inr (.inr (.inr (.inr (fun i => if i < 21 then some (a15 i) else none)))))) := by rw [eh365, mh_up_ne n_q14_q362]; exact f348
  have n_a15_q362 : ∀ i, i < 21 → a15 i ≠ q362 := fun i hi z => by have w := f349 i hi; rw [z, e363] at w; cases w
  have f371 : ∀ i, i < 21 → h364 (a15 i) = some (.inl (0, (304, .inl (fun _ => 0)))) := fun i hi => by rw [eh365, mh_up_ne (n_a15_q362 i hi)]; exact f349 i hi
  have n_q36_q362 : q36 ≠ q362 := fun z => by rw [z, e363] at f350; cases f350
  have f372 : h364 q36 = some (mh_Ni 12) := by rw [eh365, mh_up_ne n_q36_q362]; exact f350
  have n_q63_q362 : q63 ≠ q362 := fun z => by rw [z, e363] at f351; cases f351
  have f373 : h364 q63 = some (.inl (5, 13, .inr (.inr (.inr (.inr (fun i => if i < 13 then some (a64 i) else none)))))) := by rw [eh365, mh_up_ne n_q63_q362]; exact f351
  have n_a64_q362 : ∀ i, i < 13 → a64 i ≠ q362 := fun i hi z => by have w := f352 i hi; rw [z, e363] at w; cases w
  have f374 : ∀ i, i < 13 → h364 (a64 i) = some (.inl (0, (100301, .inl (fun _ => 0)))) := fun i hi => by rw [eh365, mh_up_ne (n_a64_q362 i hi)]; exact f352 i hi
  have n_q91_q362 : q91 ≠ q362 := fun z => by rw [z, e363] at f353; cases f353
  have f375 : h364 q91 = some (mh_Nz 200001) := by rw [eh365, mh_up_ne n_q91_q362]; exact f353
  have n_q116_q362 : q116 ≠ q362 := fun z => by rw [z, e363] at f354; cases f354
  have f376 : h364 q116 = some (mh_Nz 200001) := by rw [eh365, mh_up_ne n_q116_q362]; exact f354
  have n_q143_q362 : q143 ≠ q362 := fun z => by rw [z, e363] at f355; cases f355
  have f377 : h364 q143 = some (mh_Nz 200001) := by rw [eh365, mh_up_ne n_q143_q362]; exact f355
  have n_q172_q362 : q172 ≠ q362 := fun z => by rw [z, e363] at f356; cases f356
  have f378 : h364 q172 = some (.inl (6, 13, .inr (.inr (.inr (.inr (fun i => if i < 13 then some (a173 i) else none)))))) := by rw [eh365, mh_up_ne n_q172_q362]; exact f356
  have n_a173_q362 : ∀ i, i < 13 → a173 i ≠ q362 := fun i hi z => by have w := f357 i hi; rw [z, e363] at w; cases w
  have f379 : ∀ i, i < 13 → h364 (a173 i) = some (.inl (1, (3001, .inr (.inl (fun _ => 0))))) := fun i hi => by rw [eh365, mh_up_ne (n_a173_q362 i hi)]; exact f357 i hi
  have n_q210_q362 : q210 ≠ q362 := fun z => by rw [z, e363] at f358; cases f358
  have f380 : h364 q210 = some (mh_Ni 24) := by rw [eh365, mh_up_ne n_q210_q362]; exact f358
  have n_q245_q362 : q245 ≠ q362 := fun z => by rw [z, e363] at f359; cases f359
  have f381 : h364 q245 = some (mh_Ni 12) := by rw [eh365, mh_up_ne n_q245_q362]; exact f359
  have n_q282_q362 : q282 ≠ q362 := fun z => by rw [z, e363] at f360; cases f360
  have f382 : h364 q282 = some (mh_Ni 12) := by rw [eh365, mh_up_ne n_q282_q362]; exact f360
  have n_q321_q362 : q321 ≠ q362 := fun z => by rw [z, e363] at f361; cases f361
  have f383 : h364 q321 = some (mh_Ni 2400) := by rw [eh365, mh_up_ne n_q321_q362]; exact f361
  have f384 : h364 q362 = some (mh_Ni 12) := by rw [eh365]; exact mh_up_eq _ _ _
  refine mh_putF cx wd hin (ci := 12) (k := 20) (C := RX12) (T := TX12) (N := 38) (ty0 := tyX12) (ty := (.array .int)) ob368 rfl (by decide) uw_X12 (mh_in 1236 (by decide +kernel) (by decide +kernel)) tyX12_ok nmX12 rfl rfl (by decide +kernel) rfl rfl (Nat.le_of_ble_eq_true rfl) dX12_init_126 (fun H locs wd => ?_)
  obtain ⟨h385, eh386⟩ : ∃ x, x = mh_up h364 o (.inr (12, [.int 0, .ref q1, .ref q14, .int 0, .int 0, .int 0, .ref q36, .int (-1), .ref q63, .ref q91, .ref q116, .ref q143, .ref q172, .ref q210, .int 0, .int 0, .int 0, .ref q245, .ref q282, .ref q321, .ref q362, .null, .int 0, .int 0, .null, .null, .int 0, .int 0, .int 0, .null, .null, .null, .null, .null, .null, .null, .null, .null])) := ⟨_, rfl⟩
  have wd : mh_W D ks L (mh_A L0 s.heap.size) s.heap h385 H locs := by rw [eh386]; exact wd
  have R387 : mh_Rg h o h385 ((((((((((((([] ++ [q1]) ++ q14 :: (List.range 21).map a15) ++ [q36]) ++ q63 :: (List.range 13).map a64) ++ [q91]) ++ [q116]) ++ [q143]) ++ q172 :: (List.range 13).map a173) ++ [q210]) ++ [q245]) ++ [q282]) ++ [q321]) ++ [q362]) := by rw [eh386]; exact R366.set
  have ob388 : h385 o = some (.inr (12, [.int 0, .ref q1, .ref q14, .int 0, .int 0, .int 0, .ref q36, .int (-1), .ref q63, .ref q91, .ref q116, .ref q143, .ref q172, .ref q210, .int 0, .int 0, .int 0, .ref q245, .ref q282, .ref q321, .ref q362, .null, .int 0, .int 0, .null, .null, .int 0, .int 0, .int 0, .null, .null, .null, .null, .null, .null, .null, .null, .null])) := by rw [eh386]; exact mh_up_eq _ _ _
  have f389 : h385 q1 = some (mh_Ni 304) := by rw [eh386, mh_up_ne n6]; exact f369
  have f390 : h385 q14 = some (.inl (5, 21, .inr (.inr (.inr (.inr (fun i => if i < 21 then some (a15 i) else none)))))) := by rw [eh386, mh_up_ne n22]; exact f370
  have f391 : ∀ i, i < 21 → h385 (a15 i) = some (.inl (0, (304, .inl (fun _ => 0)))) := fun i hi => by rw [eh386, mh_up_ne (n23 i hi)]; exact f371 i hi
  have f392 : h385 q36 = some (mh_Ni 12) := by rw [eh386, mh_up_ne n41]; exact f372
  have f393 : h385 q63 = some (.inl (5, 13, .inr (.inr (.inr (.inr (fun i => if i < 13 then some (a64 i) else none)))))) := by rw [eh386, mh_up_ne n71]; exact f373
  have f394 : ∀ i, i < 13 → h385 (a64 i) = some (.inl (0, (100301, .inl (fun _ => 0)))) := fun i hi => by rw [eh386, mh_up_ne (n72 i hi)]; exact f374 i hi
  have f395 : h385 q91 = some (mh_Nz 200001) := by rw [eh386, mh_up_ne n96]; exact f375
  have f396 : h385 q116 = some (mh_Nz 200001) := by rw [eh386, mh_up_ne n121]; exact f376
  have f397 : h385 q143 = some (mh_Nz 200001) := by rw [eh386, mh_up_ne n148]; exact f377
  have f398 : h385 q172 = some (.inl (6, 13, .inr (.inr (.inr (.inr (fun i => if i < 13 then some (a173 i) else none)))))) := by rw [eh386, mh_up_ne n180]; exact f378
  have f399 : ∀ i, i < 13 → h385 (a173 i) = some (.inl (1, (3001, .inr (.inl (fun _ => 0))))) := fun i hi => by rw [eh386, mh_up_ne (n181 i hi)]; exact f379 i hi
  have f400 : h385 q210 = some (mh_Ni 24) := by rw [eh386, mh_up_ne n215]; exact f380
  have f401 : h385 q245 = some (mh_Ni 12) := by rw [eh386, mh_up_ne n250]; exact f381
  have f402 : h385 q282 = some (mh_Ni 12) := by rw [eh386, mh_up_ne n287]; exact f382
  have f403 : h385 q321 = some (mh_Ni 2400) := by rw [eh386, mh_up_ne n326]; exact f383
  have f404 : h385 q362 = some (mh_Ni 12) := by rw [eh386, mh_up_ne n367]; exact f384
  refine lv_aload_n hx hb dX12_init_129 rfl (lv_at hl 0 rfl) ?_
  refine lv_sipush (v := 200) hx hb dX12_init_130 (by decide) ?_
  refine mh_nwi (N' := 200) cx wd wo_int (by decide) rfl (by decide) (Nat.le_of_ble_eq_true rfl) (Nat.le_of_ble_eq_true rfl) dX12_init_133 (fun q405 L H e406 wd => ?_)
  obtain ⟨h407, eh408⟩ : ∃ x, x = mh_up h385 q405 (mh_Ni 200) := ⟨_, rfl⟩
  rw [← eh408] at wd
  have R409 : mh_Rg h o h407 (((((((((((((([] ++ [q1]) ++ q14 :: (List.range 21).map a15) ++ [q36]) ++ q63 :: (List.range 13).map a64) ++ [q91]) ++ [q116]) ++ [q143]) ++ q172 :: (List.range 13).map a173) ++ [q210]) ++ [q245]) ++ [q282]) ++ [q321]) ++ [q362]) ++ [q405]) := by rw [eh408]; exact R387.add e406
  have n410 : q405 ≠ o := fun z => by rw [z, ob388] at e406; cases e406
  have ob411 : h407 o = some (.inr (12, [.int 0, .ref q1, .ref q14, .int 0, .int 0, .int 0, .ref q36, .int (-1), .ref q63, .ref q91, .ref q116, .ref q143, .ref q172, .ref q210, .int 0, .int 0, .int 0, .ref q245, .ref q282, .ref q321, .ref q362, .null, .int 0, .int 0, .null, .null, .int 0, .int 0, .int 0, .null, .null, .null, .null, .null, .null, .null, .null, .null])) := by rw [eh408, mh_up_ne (fun z => n410 z.symm)]; exact ob388
  have n_q1_q405 : q1 ≠ q405 := fun z => by rw [z, e406] at f389; cases f389
  have f412 : h407 q1 = some (mh_Ni 304) := by rw [eh408, mh_up_ne n_q1_q405]; exact f389
  have n_q14_q405 : q14 ≠ q405 := fun z => by rw [z, e406] at f390; cases f390
  have f413 : h407 q14 = some (.inl (5, 21, .inr (.inr (.inr (.inr (fun i => if i < 21 then some (a15 i) else none)))))) := by rw [eh408, mh_up_ne n_q14_q405]; exact f390
  have n_a15_q405 : ∀ i, i < 21 → a15 i ≠ q405 := fun i hi z => by have w := f391 i hi; rw [z, e406] at w; cases w
  have f414 : ∀ i, i < 21 → h407 (a15 i) = some (.inl (0, (304, .inl (fun _ => 0)))) := fun i hi => by rw [eh408, mh_up_ne (n_a15_q405 i hi)]; exact f391 i hi
  have n_q36_q405 : q36 ≠ q405 := fun z => by rw [z, e406] at f392; cases f392
  have f415 : h407 q36 = some (mh_Ni 12) := by rw [eh408, mh_up_ne n_q36_q405]; exact f392
  have n_q63_q405 : q63 ≠ q405 := fun z => by rw [z, e406] at f393; cases f393
  have f416 : h407 q63 = some (.inl (5, 13, .inr (.inr (.inr (.inr (fun i => if i < 13 then some (a64 i) else none)))))) := by rw [eh408, mh_up_ne n_q63_q405]; exact f393
  have n_a64_q405 : ∀ i, i < 13 → a64 i ≠ q405 := fun i hi z => by have w := f394 i hi; rw [z, e406] at w; cases w
  have f417 : ∀ i, i < 13 → h407 (a64 i) = some (.inl (0, (100301, .inl (fun _ => 0)))) := fun i hi => by rw [eh408, mh_up_ne (n_a64_q405 i hi)]; exact f394 i hi
  have n_q91_q405 : q91 ≠ q405 := fun z => by rw [z, e406] at f395; cases f395
  have f418 : h407 q91 = some (mh_Nz 200001) := by rw [eh408, mh_up_ne n_q91_q405]; exact f395
  have n_q116_q405 : q116 ≠ q405 := fun z => by rw [z, e406] at f396; cases f396
  have f419 : h407 q116 = some (mh_Nz 200001) := by rw [eh408, mh_up_ne n_q116_q405]; exact f396
  have n_q143_q405 : q143 ≠ q405 := fun z => by rw [z, e406] at f397; cases f397
  have f420 : h407 q143 = some (mh_Nz 200001) := by rw [eh408, mh_up_ne n_q143_q405]; exact f397
  have n_q172_q405 : q172 ≠ q405 := fun z => by rw [z, e406] at f398; cases f398
  have f421 : h407 q172 = some (.inl (6, 13, .inr (.inr (.inr (.inr (fun i => if i < 13 then some (a173 i) else none)))))) := by rw [eh408, mh_up_ne n_q172_q405]; exact f398
  have n_a173_q405 : ∀ i, i < 13 → a173 i ≠ q405 := fun i hi z => by have w := f399 i hi; rw [z, e406] at w; cases w
  have f422 : ∀ i, i < 13 → h407 (a173 i) = some (.inl (1, (3001, .inr (.inl (fun _ => 0))))) := fun i hi => by rw [eh408, mh_up_ne (n_a173_q405 i hi)]; exact f399 i hi
  have n_q210_q405 : q210 ≠ q405 := fun z => by rw [z, e406] at f400; cases f400
  have f423 : h407 q210 = some (mh_Ni 24) := by rw [eh408, mh_up_ne n_q210_q405]; exact f400
  have n_q245_q405 : q245 ≠ q405 := fun z => by rw [z, e406] at f401; cases f401
  have f424 : h407 q245 = some (mh_Ni 12) := by rw [eh408, mh_up_ne n_q245_q405]; exact f401
  have n_q282_q405 : q282 ≠ q405 := fun z => by rw [z, e406] at f402; cases f402
  have f425 : h407 q282 = some (mh_Ni 12) := by rw [eh408, mh_up_ne n_q282_q405]; exact f402
  have n_q321_q405 : q321 ≠ q405 := fun z => by rw [z, e406] at f403; cases f403
  have f426 : h407 q321 = some (mh_Ni 2400) := by rw [eh408, mh_up_ne n_q321_q405]; exact f403
  have n_q362_q405 : q362 ≠ q405 := fun z => by rw [z, e406] at f404; cases f404
  have f427 : h407 q362 = some (mh_Ni 12) := by rw [eh408, mh_up_ne n_q362_q405]; exact f404
  have f428 : h407 q405 = some (mh_Ni 200) := by rw [eh408]; exact mh_up_eq _ _ _
  refine mh_putF cx wd hin (ci := 12) (k := 21) (C := RX12) (T := TX12) (N := 38) (ty0 := tyX12) (ty := (.array .int)) ob411 rfl (by decide) uw_X12 (mh_in 1237 (by decide +kernel) (by decide +kernel)) tyX12_ok nmX12 rfl rfl (by decide +kernel) rfl rfl (Nat.le_of_ble_eq_true rfl) dX12_init_135 (fun H locs wd => ?_)
  obtain ⟨h429, eh430⟩ : ∃ x, x = mh_up h407 o (.inr (12, [.int 0, .ref q1, .ref q14, .int 0, .int 0, .int 0, .ref q36, .int (-1), .ref q63, .ref q91, .ref q116, .ref q143, .ref q172, .ref q210, .int 0, .int 0, .int 0, .ref q245, .ref q282, .ref q321, .ref q362, .ref q405, .int 0, .int 0, .null, .null, .int 0, .int 0, .int 0, .null, .null, .null, .null, .null, .null, .null, .null, .null])) := ⟨_, rfl⟩
  have wd : mh_W D ks L (mh_A L0 s.heap.size) s.heap h429 H locs := by rw [eh430]; exact wd
  have R431 : mh_Rg h o h429 (((((((((((((([] ++ [q1]) ++ q14 :: (List.range 21).map a15) ++ [q36]) ++ q63 :: (List.range 13).map a64) ++ [q91]) ++ [q116]) ++ [q143]) ++ q172 :: (List.range 13).map a173) ++ [q210]) ++ [q245]) ++ [q282]) ++ [q321]) ++ [q362]) ++ [q405]) := by rw [eh430]; exact R409.set
  have ob432 : h429 o = some (.inr (12, [.int 0, .ref q1, .ref q14, .int 0, .int 0, .int 0, .ref q36, .int (-1), .ref q63, .ref q91, .ref q116, .ref q143, .ref q172, .ref q210, .int 0, .int 0, .int 0, .ref q245, .ref q282, .ref q321, .ref q362, .ref q405, .int 0, .int 0, .null, .null, .int 0, .int 0, .int 0, .null, .null, .null, .null, .null, .null, .null, .null, .null])) := by rw [eh430]; exact mh_up_eq _ _ _
  have f433 : h429 q1 = some (mh_Ni 304) := by rw [eh430, mh_up_ne n6]; exact f412
  have f434 : h429 q14 = some (.inl (5, 21, .inr (.inr (.inr (.inr (fun i => if i < 21 then some (a15 i) else none)))))) := by rw [eh430, mh_up_ne n22]; exact f413
  have f435 : ∀ i, i < 21 → h429 (a15 i) = some (.inl (0, (304, .inl (fun _ => 0)))) := fun i hi => by rw [eh430, mh_up_ne (n23 i hi)]; exact f414 i hi
  have f436 : h429 q36 = some (mh_Ni 12) := by rw [eh430, mh_up_ne n41]; exact f415
  have f437 : h429 q63 = some (.inl (5, 13, .inr (.inr (.inr (.inr (fun i => if i < 13 then some (a64 i) else none)))))) := by rw [eh430, mh_up_ne n71]; exact f416
  have f438 : ∀ i, i < 13 → h429 (a64 i) = some (.inl (0, (100301, .inl (fun _ => 0)))) := fun i hi => by rw [eh430, mh_up_ne (n72 i hi)]; exact f417 i hi
  have f439 : h429 q91 = some (mh_Nz 200001) := by rw [eh430, mh_up_ne n96]; exact f418
  have f440 : h429 q116 = some (mh_Nz 200001) := by rw [eh430, mh_up_ne n121]; exact f419
  have f441 : h429 q143 = some (mh_Nz 200001) := by rw [eh430, mh_up_ne n148]; exact f420
  have f442 : h429 q172 = some (.inl (6, 13, .inr (.inr (.inr (.inr (fun i => if i < 13 then some (a173 i) else none)))))) := by rw [eh430, mh_up_ne n180]; exact f421
  have f443 : ∀ i, i < 13 → h429 (a173 i) = some (.inl (1, (3001, .inr (.inl (fun _ => 0))))) := fun i hi => by rw [eh430, mh_up_ne (n181 i hi)]; exact f422 i hi
  have f444 : h429 q210 = some (mh_Ni 24) := by rw [eh430, mh_up_ne n215]; exact f423
  have f445 : h429 q245 = some (mh_Ni 12) := by rw [eh430, mh_up_ne n250]; exact f424
  have f446 : h429 q282 = some (mh_Ni 12) := by rw [eh430, mh_up_ne n287]; exact f425
  have f447 : h429 q321 = some (mh_Ni 2400) := by rw [eh430, mh_up_ne n326]; exact f426
  have f448 : h429 q362 = some (mh_Ni 12) := by rw [eh430, mh_up_ne n367]; exact f427
  have f449 : h429 q405 = some (mh_Ni 200) := by rw [eh430, mh_up_ne n410]; exact f428
  refine lv_aload_n hx hb dX12_init_138 rfl (lv_at hl 0 rfl) ?_
  refine lv_bipush (v := 6) hx hb dX12_init_139 (by decide) ?_
  refine mh_nwi (N' := 6) cx wd wo_int (by decide) rfl (by decide) (Nat.le_of_ble_eq_true rfl) (Nat.le_of_ble_eq_true rfl) dX12_init_141 (fun q450 L H e451 wd => ?_)
  obtain ⟨h452, eh453⟩ : ∃ x, x = mh_up h429 q450 (mh_Ni 6) := ⟨_, rfl⟩
  rw [← eh453] at wd
  have R454 : mh_Rg h o h452 ((((((((((((((([] ++ [q1]) ++ q14 :: (List.range 21).map a15) ++ [q36]) ++ q63 :: (List.range 13).map a64) ++ [q91]) ++ [q116]) ++ [q143]) ++ q172 :: (List.range 13).map a173) ++ [q210]) ++ [q245]) ++ [q282]) ++ [q321]) ++ [q362]) ++ [q405]) ++ [q450]) := by rw [eh453]; exact R431.add e451
  have n455 : q450 ≠ o := fun z => by rw [z, ob432] at e451; cases e451
  have ob456 : h452 o = some (.inr (12, [.int 0, .ref q1, .ref q14, .int 0, .int 0, .int 0, .ref q36, .int (-1), .ref q63, .ref q91, .ref q116, .ref q143, .ref q172, .ref q210, .int 0, .int 0, .int 0, .ref q245, .ref q282, .ref q321, .ref q362, .ref q405, .int 0, .int 0, .null, .null, .int 0, .int 0, .int 0, .null, .null, .null, .null, .null, .null, .null, .null, .null])) := by rw [eh453, mh_up_ne (fun z => n455 z.symm)]; exact ob432
  have n_q1_q450 : q1 ≠ q450 := fun z => by rw [z, e451] at f433; cases f433
  have f457 : h452 q1 = some (mh_Ni 304) := by rw [eh453, mh_up_ne n_q1_q450]; exact f433
  have n_q14_q450 : q14 ≠ q450 := fun z => by rw [z, e451] at f434; cases f434
  have f458 : h452 q14 = some (.inl (5, 21, .inr (.inr (.inr (.inr (fun i => if i < 21 then some (a15 i) else none)))))) := by rw [eh453, mh_up_ne n_q14_q450]; exact f434
  have n_a15_q450 : ∀ i, i < 21 → a15 i ≠ q450 := fun i hi z => by have w := f435 i hi; rw [z, e451] at w; cases w
  have f459 : ∀ i, i < 21 → h452 (a15 i) = some (.inl (0, (304, .inl (fun _ => 0)))) := fun i hi => by rw [eh453, mh_up_ne (n_a15_q450 i hi)]; exact f435 i hi
  have n_q36_q450 : q36 ≠ q450 := fun z => by rw [z, e451] at f436; cases f436
  have f460 : h452 q36 = some (mh_Ni 12) := by rw [eh453, mh_up_ne n_q36_q450]; exact f436
  have n_q63_q450 : q63 ≠ q450 := fun z => by rw [z, e451] at f437; cases f437
  have f461 : h452 q63 = some (.inl (5, 13, .inr (.inr (.inr (.inr (fun i => if i < 13 then some (a64 i) else none)))))) := by rw [eh453, mh_up_ne n_q63_q450]; exact f437
  have n_a64_q450 : ∀ i, i < 13 → a64 i ≠ q450 := fun i hi z => by have w := f438 i hi; rw [z, e451] at w; cases w
  have f462 : ∀ i, i < 13 → h452 (a64 i) = some (.inl (0, (100301, .inl (fun _ => 0)))) := fun i hi => by rw [eh453, mh_up_ne (n_a64_q450 i hi)]; exact f438 i hi
  have n_q91_q450 : q91 ≠ q450 := fun z => by rw [z, e451] at f439; cases f439
  have f463 : h452 q91 = some (mh_Nz 200001) := by rw [eh453, mh_up_ne n_q91_q450]; exact f439
  have n_q116_q450 : q116 ≠ q450 := fun z => by rw [z, e451] at f440; cases f440
  have f464 : h452 q116 = some (mh_Nz 200001) := by rw [eh453, mh_up_ne n_q116_q450]; exact f440
  have n_q143_q450 : q143 ≠ q450 := fun z => by rw [z, e451] at f441; cases f441
  have f465 : h452 q143 = some (mh_Nz 200001) := by rw [eh453, mh_up_ne n_q143_q450]; exact f441
  have n_q172_q450 : q172 ≠ q450 := fun z => by rw [z, e451] at f442; cases f442
  have f466 : h452 q172 = some (.inl (6, 13, .inr (.inr (.inr (.inr (fun i => if i < 13 then some (a173 i) else none)))))) := by rw [eh453, mh_up_ne n_q172_q450]; exact f442
  have n_a173_q450 : ∀ i, i < 13 → a173 i ≠ q450 := fun i hi z => by have w := f443 i hi; rw [z, e451] at w; cases w
  have f467 : ∀ i, i < 13 → h452 (a173 i) = some (.inl (1, (3001, .inr (.inl (fun _ => 0))))) := fun i hi => by rw [eh453, mh_up_ne (n_a173_q450 i hi)]; exact f443 i hi
  have n_q210_q450 : q210 ≠ q450 := fun z => by rw [z, e451] at f444; cases f444
  have f468 : h452 q210 = some (mh_Ni 24) := by rw [eh453, mh_up_ne n_q210_q450]; exact f444
  have n_q245_q450 : q245 ≠ q450 := fun z => by rw [z, e451] at f445; cases f445
  have f469 : h452 q245 = some (mh_Ni 12) := by rw [eh453, mh_up_ne n_q245_q450]; exact f445
  have n_q282_q450 : q282 ≠ q450 := fun z => by rw [z, e451] at f446; cases f446
  have f470 : h452 q282 = some (mh_Ni 12) := by rw [eh453, mh_up_ne n_q282_q450]; exact f446
  have n_q321_q450 : q321 ≠ q450 := fun z => by rw [z, e451] at f447; cases f447
  have f471 : h452 q321 = some (mh_Ni 2400) := by rw [eh453, mh_up_ne n_q321_q450]; exact f447
  have n_q362_q450 : q362 ≠ q450 := fun z => by rw [z, e451] at f448; cases f448
  have f472 : h452 q362 = some (mh_Ni 12) := by rw [eh453, mh_up_ne n_q362_q450]; exact f448
  have n_q405_q450 : q405 ≠ q450 := fun z => by rw [z, e451] at f449; cases f449
  have f473 : h452 q405 = some (mh_Ni 200) := by rw [eh453, mh_up_ne n_q405_q450]; exact f449
  have f474 : h452 q450 = some (mh_Ni 6) := by rw [eh453]; exact mh_up_eq _ _ _
  refine mh_putF cx wd hin (ci := 12) (k := 24) (C := RX12) (T := TX12) (N := 38) (ty0 := tyX12) (ty := (.array .int)) ob456 rfl (by decide) uw_X12 (mh_in 1240 (by decide +kernel) (by decide +kernel)) tyX12_ok nmX12 rfl rfl (by decide +kernel) rfl rfl (Nat.le_of_ble_eq_true rfl) dX12_init_143 (fun H locs wd => ?_)
  obtain ⟨h475, eh476⟩ : ∃ x, x = mh_up h452 o (.inr (12, [.int 0, .ref q1, .ref q14, .int 0, .int 0, .int 0, .ref q36, .int (-1), .ref q63, .ref q91, .ref q116, .ref q143, .ref q172, .ref q210, .int 0, .int 0, .int 0, .ref q245, .ref q282, .ref q321, .ref q362, .ref q405, .int 0, .int 0, .ref q450, .null, .int 0, .int 0, .int 0, .null, .null, .null, .null, .null, .null, .null, .null, .null])) := ⟨_, rfl⟩
  have wd : mh_W D ks L (mh_A L0 s.heap.size) s.heap h475 H locs := by rw [eh476]; exact wd
  have R477 : mh_Rg h o h475 ((((((((((((((([] ++ [q1]) ++ q14 :: (List.range 21).map a15) ++ [q36]) ++ q63 :: (List.range 13).map a64) ++ [q91]) ++ [q116]) ++ [q143]) ++ q172 :: (List.range 13).map a173) ++ [q210]) ++ [q245]) ++ [q282]) ++ [q321]) ++ [q362]) ++ [q405]) ++ [q450]) := by rw [eh476]; exact R454.set
  have ob478 : h475 o = some (.inr (12, [.int 0, .ref q1, .ref q14, .int 0, .int 0, .int 0, .ref q36, .int (-1), .ref q63, .ref q91, .ref q116, .ref q143, .ref q172, .ref q210, .int 0, .int 0, .int 0, .ref q245, .ref q282, .ref q321, .ref q362, .ref q405, .int 0, .int 0, .ref q450, .null, .int 0, .int 0, .int 0, .null, .null, .null, .null, .null, .null, .null, .null, .null])) := by rw [eh476]; exact mh_up_eq _ _ _
  have f479 : h475 q1 = some (mh_Ni 304) := by rw [eh476, mh_up_ne n6]; exact f457
  have f480 : h475 q14 = some (.inl (5, 21, .inr (.inr (.inr (.inr (fun i => if i < 21 then some (a15 i) else none)))))) := by rw [eh476, mh_up_ne n22]; exact f458
  have f481 : ∀ i, i < 21 → h475 (a15 i) = some (.inl (0, (304, .inl (fun _ => 0)))) := fun i hi => by rw [eh476, mh_up_ne (n23 i hi)]; exact f459 i hi
  have f482 : h475 q36 = some (mh_Ni 12) := by rw [eh476, mh_up_ne n41]; exact f460
  have f483 : h475 q63 = some (.inl (5, 13, .inr (.inr (.inr (.inr (fun i => if i < 13 then some (a64 i) else none)))))) := by rw [eh476, mh_up_ne n71]; exact f461
  have f484 : ∀ i, i < 13 → h475 (a64 i) = some (.inl (0, (100301, .inl (fun _ => 0)))) := fun i hi => by rw [eh476, mh_up_ne (n72 i hi)]; exact f462 i hi
  have f485 : h475 q91 = some (mh_Nz 200001) := by rw [eh476, mh_up_ne n96]; exact f463
  have f486 : h475 q116 = some (mh_Nz 200001) := by rw [eh476, mh_up_ne n121]; exact f464
  have f487 : h475 q143 = some (mh_Nz 200001) := by rw [eh476, mh_up_ne n148]; exact f465
  have f488 : h475 q172 = some (.inl (6, 13, .inr (.inr (.inr (.inr (fun i => if i < 13 then some (a173 i) else none)))))) := by rw [eh476, mh_up_ne n180]; exact f466
  have f489 : ∀ i, i < 13 → h475 (a173 i) = some (.inl (1, (3001, .inr (.inl (fun _ => 0))))) := fun i hi => by rw [eh476, mh_up_ne (n181 i hi)]; exact f467 i hi
  have f490 : h475 q210 = some (mh_Ni 24) := by rw [eh476, mh_up_ne n215]; exact f468
  have f491 : h475 q245 = some (mh_Ni 12) := by rw [eh476, mh_up_ne n250]; exact f469
  have f492 : h475 q282 = some (mh_Ni 12) := by rw [eh476, mh_up_ne n287]; exact f470
  have f493 : h475 q321 = some (mh_Ni 2400) := by rw [eh476, mh_up_ne n326]; exact f471
  have f494 : h475 q362 = some (mh_Ni 12) := by rw [eh476, mh_up_ne n367]; exact f472
  have f495 : h475 q405 = some (mh_Ni 200) := by rw [eh476, mh_up_ne n410]; exact f473
  have f496 : h475 q450 = some (mh_Ni 6) := by rw [eh476, mh_up_ne n455]; exact f474
  refine lv_aload_n hx hb dX12_init_146 rfl (lv_at hl 0 rfl) ?_
  refine lv_bipush (v := 6) hx hb dX12_init_147 (by decide) ?_
  refine mh_nwi (N' := 6) cx wd wo_int (by decide) rfl (by decide) (Nat.le_of_ble_eq_true rfl) (Nat.le_of_ble_eq_true rfl) dX12_init_149 (fun q497 L H e498 wd => ?_)
  obtain ⟨h499, eh500⟩ : ∃ x, x = mh_up h475 q497 (mh_Ni 6) := ⟨_, rfl⟩
  rw [← eh500] at wd
  have R501 : mh_Rg h o h499 (((((((((((((((([] ++ [q1]) ++ q14 :: (List.range 21).map a15) ++ [q36]) ++ q63 :: (List.range 13).map a64) ++ [q91]) ++ [q116]) ++ [q143]) ++ q172 :: (List.range 13).map a173) ++ [q210]) ++ [q245]) ++ [q282]) ++ [q321]) ++ [q362]) ++ [q405]) ++ [q450]) ++ [q497]) := by rw [eh500]; exact R477.add e498
  have n502 : q497 ≠ o := fun z => by rw [z, ob478] at e498; cases e498
  have ob503 : h499 o = some (.inr (12, [.int 0, .ref q1, .ref q14, .int 0, .int 0, .int 0, .ref q36, .int (-1), .ref q63, .ref q91, .ref q116, .ref q143, .ref q172, .ref q210, .int 0, .int 0, .int 0, .ref q245, .ref q282, .ref q321, .ref q362, .ref q405, .int 0, .int 0, .ref q450, .null, .int 0, .int 0, .int 0, .null, .null, .null, .null, .null, .null, .null, .null, .null])) := by rw [eh500, mh_up_ne (fun z => n502 z.symm)]; exact ob478
  have n_q1_q497 : q1 ≠ q497 := fun z => by rw [z, e498] at f479; cases f479
  have f504 : h499 q1 = some (mh_Ni 304) := by rw [eh500, mh_up_ne n_q1_q497]; exact f479
  have n_q14_q497 : q14 ≠ q497 := fun z => by rw [z, e498] at f480; cases f480
  have f505 : h499 q14 = some (.inl (5, 21, .inr (.inr (.inr (.inr (fun i => if i < 21 then some (a15 i) else none)))))) := by rw [eh500, mh_up_ne n_q14_q497]; exact f480
  have n_a15_q497 : ∀ i, i < 21 → a15 i ≠ q497 := fun i hi z => by have w := f481 i hi; rw [z, e498] at w; cases w
  have f506 : ∀ i, i < 21 → h499 (a15 i) = some (.inl (0, (304, .inl (fun _ => 0)))) := fun i hi => by rw [eh500, mh_up_ne (n_a15_q497 i hi)]; exact f481 i hi
  have n_q36_q497 : q36 ≠ q497 := fun z => by rw [z, e498] at f482; cases f482
  have f507 : h499 q36 = some (mh_Ni 12) := by rw [eh500, mh_up_ne n_q36_q497]; exact f482
  have n_q63_q497 : q63 ≠ q497 := fun z => by rw [z, e498] at f483; cases f483
  have f508 : h499 q63 = some (.inl (5, 13, .inr (.inr (.inr (.inr (fun i => if i < 13 then some (a64 i) else none)))))) := by rw [eh500, mh_up_ne n_q63_q497]; exact f483
  have n_a64_q497 : ∀ i, i < 13 → a64 i ≠ q497 := fun i hi z => by have w := f484 i hi; rw [z, e498] at w; cases w
  have f509 : ∀ i, i < 13 → h499 (a64 i) = some (.inl (0, (100301, .inl (fun _ => 0)))) := fun i hi => by rw [eh500, mh_up_ne (n_a64_q497 i hi)]; exact f484 i hi
  have n_q91_q497 : q91 ≠ q497 := fun z => by rw [z, e498] at f485; cases f485
  have f510 : h499 q91 = some (mh_Nz 200001) := by rw [eh500, mh_up_ne n_q91_q497]; exact f485
  have n_q116_q497 : q116 ≠ q497 := fun z => by rw [z, e498] at f486; cases f486
  have f511 : h499 q116 = some (mh_Nz 200001) := by rw [eh500, mh_up_ne n_q116_q497]; exact f486
  have n_q143_q497 : q143 ≠ q497 := fun z => by rw [z, e498] at f487; cases f487
  have f512 : h499 q143 = some (mh_Nz 200001) := by rw [eh500, mh_up_ne n_q143_q497]; exact f487
  have n_q172_q497 : q172 ≠ q497 := fun z => by rw [z, e498] at f488; cases f488
  have f513 : h499 q172 = some (.inl (6, 13, .inr (.inr (.inr (.inr (fun i => if i < 13 then some (a173 i) else none)))))) := by rw [eh500, mh_up_ne n_q172_q497]; exact f488
  have n_a173_q497 : ∀ i, i < 13 → a173 i ≠ q497 := fun i hi z => by have w := f489 i hi; rw [z, e498] at w; cases w
  have f514 : ∀ i, i < 13 → h499 (a173 i) = some (.inl (1, (3001, .inr (.inl (fun _ => 0))))) := fun i hi => by rw [eh500, mh_up_ne (n_a173_q497 i hi)]; exact f489 i hi
  have n_q210_q497 : q210 ≠ q497 := fun z => by rw [z, e498] at f490; cases f490
  have f515 : h499 q210 = some (mh_Ni 24) := by rw [eh500, mh_up_ne n_q210_q497]; exact f490
  have n_q245_q497 : q245 ≠ q497 := fun z => by rw [z, e498] at f491; cases f491
  have f516 : h499 q245 = some (mh_Ni 12) := by rw [eh500, mh_up_ne n_q245_q497]; exact f491
  have n_q282_q497 : q282 ≠ q497 := fun z => by rw [z, e498] at f492; cases f492
  have f517 : h499 q282 = some (mh_Ni 12) := by rw [eh500, mh_up_ne n_q282_q497]; exact f492
  have n_q321_q497 : q321 ≠ q497 := fun z => by rw [z, e498] at f493; cases f493
  have f518 : h499 q321 = some (mh_Ni 2400) := by rw [eh500, mh_up_ne n_q321_q497]; exact f493
  have n_q362_q497 : q362 ≠ q497 := fun z => by rw [z, e498] at f494; cases f494
  have f519 : h499 q362 = some (mh_Ni 12) := by rw [eh500, mh_up_ne n_q362_q497]; exact f494
  have n_q405_q497 : q405 ≠ q497 := fun z => by rw [z, e498] at f495; cases f495
  have f520 : h499 q405 = some (mh_Ni 200) := by rw [eh500, mh_up_ne n_q405_q497]; exact f495
  have n_q450_q497 : q450 ≠ q497 := fun z => by rw [z, e498] at f496; cases f496
  have f521 : h499 q450 = some (mh_Ni 6) := by rw [eh500, mh_up_ne n_q450_q497]; exact f496
  have f522 : h499 q497 = some (mh_Ni 6) := by rw [eh500]; exact mh_up_eq _ _ _
  refine mh_putF cx wd hin (ci := 12) (k := 25) (C := RX12) (T := TX12) (N := 38) (ty0 := tyX12) (ty := (.array .int)) ob503 rfl (by decide) uw_X12 (mh_in 1241 (by decide +kernel) (by decide +kernel)) tyX12_ok nmX12 rfl rfl (by decide +kernel) rfl rfl (Nat.le_of_ble_eq_true rfl) dX12_init_151 (fun H locs wd => ?_)
  obtain ⟨h523, eh524⟩ : ∃ x, x = mh_up h499 o (.inr (12, [.int 0, .ref q1, .ref q14, .int 0, .int 0, .int 0, .ref q36, .int (-1), .ref q63, .ref q91, .ref q116, .ref q143, .ref q172, .ref q210, .int 0, .int 0, .int 0, .ref q245, .ref q282, .ref q321, .ref q362, .ref q405, .int 0, .int 0, .ref q450, .ref q497, .int 0, .int 0, .int 0, .null, .null, .null, .null, .null, .null, .null, .null, .null])) := ⟨_, rfl⟩
  have wd : mh_W D ks L (mh_A L0 s.heap.size) s.heap h523 H locs := by rw [eh524]; exact wd
  have R525 : mh_Rg h o h523 (((((((((((((((([] ++ [q1]) ++ q14 :: (List.range 21).map a15) ++ [q36]) ++ q63 :: (List.range 13).map a64) ++ [q91]) ++ [q116]) ++ [q143]) ++ q172 :: (List.range 13).map a173) ++ [q210]) ++ [q245]) ++ [q282]) ++ [q321]) ++ [q362]) ++ [q405]) ++ [q450]) ++ [q497]) := by rw [eh524]; exact R501.set
  have ob526 : h523 o = some (.inr (12, [.int 0, .ref q1, .ref q14, .int 0, .int 0, .int 0, .ref q36, .int (-1), .ref q63, .ref q91, .ref q116, .ref q143, .ref q172, .ref q210, .int 0, .int 0, .int 0, .ref q245, .ref q282, .ref q321, .ref q362, .ref q405, .int 0, .int 0, .ref q450, .ref q497, .int 0, .int 0, .int 0, .null, .null, .null, .null, .null, .null, .null, .null, .null])) := by rw [eh524]; exact mh_up_eq _ _ _
  have f527 : h523 q1 = some (mh_Ni 304) := by rw [eh524, mh_up_ne n6]; exact f504
  have f528 : h523 q14 = some (.inl (5, 21, .inr (.inr (.inr (.inr (fun i => if i < 21 then some (a15 i) else none)))))) := by rw [eh524, mh_up_ne n22]; exact f505
  have f529 : ∀ i, i < 21 → h523 (a15 i) = some (.inl (0, (304, .inl (fun _ => 0)))) := fun i hi => by rw [eh524, mh_up_ne (n23 i hi)]; exact f506 i hi
  have f530 : h523 q36 = some (mh_Ni 12) := by rw [eh524, mh_up_ne n41]; exact f507
  have f531 : h523 q63 = some (.inl (5, 13, .inr (.inr (.inr (.inr (fun i => if i < 13 then some (a64 i) else none)))))) := by rw [eh524, mh_up_ne n71]; exact f508
  have f532 : ∀ i, i < 13 → h523 (a64 i) = some (.inl (0, (100301, .inl (fun _ => 0)))) := fun i hi => by rw [eh524, mh_up_ne (n72 i hi)]; exact f509 i hi
  have f533 : h523 q91 = some (mh_Nz 200001) := by rw [eh524, mh_up_ne n96]; exact f510
  have f534 : h523 q116 = some (mh_Nz 200001) := by rw [eh524, mh_up_ne n121]; exact f511
  have f535 : h523 q143 = some (mh_Nz 200001) := by rw [eh524, mh_up_ne n148]; exact f512
  have f536 : h523 q172 = some (.inl (6, 13, .inr (.inr (.inr (.inr (fun i => if i < 13 then some (a173 i) else none)))))) := by rw [eh524, mh_up_ne n180]; exact f513
  have f537 : ∀ i, i < 13 → h523 (a173 i) = some (.inl (1, (3001, .inr (.inl (fun _ => 0))))) := fun i hi => by rw [eh524, mh_up_ne (n181 i hi)]; exact f514 i hi
  have f538 : h523 q210 = some (mh_Ni 24) := by rw [eh524, mh_up_ne n215]; exact f515
  have f539 : h523 q245 = some (mh_Ni 12) := by rw [eh524, mh_up_ne n250]; exact f516
  have f540 : h523 q282 = some (mh_Ni 12) := by rw [eh524, mh_up_ne n287]; exact f517
  have f541 : h523 q321 = some (mh_Ni 2400) := by rw [eh524, mh_up_ne n326]; exact f518
  have f542 : h523 q362 = some (mh_Ni 12) := by rw [eh524, mh_up_ne n367]; exact f519
  have f543 : h523 q405 = some (mh_Ni 200) := by rw [eh524, mh_up_ne n410]; exact f520
  have f544 : h523 q450 = some (mh_Ni 6) := by rw [eh524, mh_up_ne n455]; exact f521
  have f545 : h523 q497 = some (mh_Ni 6) := by rw [eh524, mh_up_ne n502]; exact f522
  refine lv_aload_n hx hb dX12_init_154 rfl (lv_at hl 0 rfl) ?_
  refine lv_sipush (v := 3902) hx hb dX12_init_155 (by decide) ?_
  refine mh_nwi (N' := 3902) cx wd wo_int (by decide) rfl (by decide) (Nat.le_of_ble_eq_true rfl) (Nat.le_of_ble_eq_true rfl) dX12_init_158 (fun q546 L H e547 wd => ?_)
  obtain ⟨h548, eh549⟩ : ∃ x, x = mh_up h523 q546 (mh_Ni 3902) := ⟨_, rfl⟩
  rw [← eh549] at wd
  have R550 : mh_Rg h o h548 ((((((((((((((((([] ++ [q1]) ++ q14 :: (List.range 21).map a15) ++ [q36]) ++ q63 :: (List.range 13).map a64) ++ [q91]) ++ [q116]) ++ [q143]) ++ q172 :: (List.range 13).map a173) ++ [q210]) ++ [q245]) ++ [q282]) ++ [q321]) ++ [q362]) ++ [q405]) ++ [q450]) ++ [q497]) ++ [q546]) := by rw [eh549]; exact R525.add e547
  have n551 : q546 ≠ o := fun z => by rw [z, ob526] at e547; cases e547
  have ob552 : h548 o = some (.inr (12, [.int 0, .ref q1, .ref q14, .int 0, .int 0, .int 0, .ref q36, .int (-1), .ref q63, .ref q91, .ref q116, .ref q143, .ref q172, .ref q210, .int 0, .int 0, .int 0, .ref q245, .ref q282, .ref q321, .ref q362, .ref q405, .int 0, .int 0, .ref q450, .ref q497, .int 0, .int 0, .int 0, .null, .null, .null, .null, .null, .null, .null, .null, .null])) := by rw [eh549, mh_up_ne (fun z => n551 z.symm)]; exact ob526
  have n_q1_q546 : q1 ≠ q546 := fun z => by rw [z, e547] at f527; cases f527
  have f553 : h548 q1 = some (mh_Ni 304) := by rw [eh549, mh_up_ne n_q1_q546]; exact f527
  have n_q14_q546 : q14 ≠ q546 := fun z => by rw [z, e547] at f528; cases f528
  have f554 : h548 q14 = some (.inl (5, 21, .inr (.inr (.inr (.inr (fun i => if i < 21 then some (a15 i) else none)))))) := by rw [eh549, mh_up_ne n_q14_q546]; exact f528
  have n_a15_q546 : ∀ i, i < 21 → a15 i ≠ q546 := fun i hi z => by have w := f529 i hi; rw [z, e547] at w; cases w
  have f555 : ∀ i, i < 21 → h548 (a15 i) = some (.inl (0, (304, .inl (fun _ => 0)))) := fun i hi => by rw [eh549, mh_up_ne (n_a15_q546 i hi)]; exact f529 i hi
  have n_q36_q546 : q36 ≠ q546 := fun z => by rw [z, e547] at f530; cases f530
  have f556 : h548 q36 = some (mh_Ni 12) := by rw [eh549, mh_up_ne n_q36_q546]; exact f530
  have n_q63_q546 : q63 ≠ q546 := fun z => by rw [z, e547] at f531; cases f531
  have f557 : h548 q63 = some (.inl (5, 13, .inr (.inr (.inr (.inr (fun i => if i < 13 then some (a64 i) else none)))))) := by rw [eh549, mh_up_ne n_q63_q546]; exact f531
  have n_a64_q546 : ∀ i, i < 13 → a64 i ≠ q546 := fun i hi z => by have w := f532 i hi; rw [z, e547] at w; cases w
  have f558 : ∀ i, i < 13 → h548 (a64 i) = some (.inl (0, (100301, .inl (fun _ => 0)))) := fun i hi => by rw [eh549, mh_up_ne (n_a64_q546 i hi)]; exact f532 i hi
  have n_q91_q546 : q91 ≠ q546 := fun z => by rw [z, e547] at f533; cases f533
  have f559 : h548 q91 = some (mh_Nz 200001) := by rw [eh549, mh_up_ne n_q91_q546]; exact f533
  have n_q116_q546 : q116 ≠ q546 := fun z => by rw [z, e547] at f534; cases f534
  have f560 : h548 q116 = some (mh_Nz 200001) := by rw [eh549, mh_up_ne n_q116_q546]; exact f534
  have n_q143_q546 : q143 ≠ q546 := fun z => by rw [z, e547] at f535; cases f535
  have f561 : h548 q143 = some (mh_Nz 200001) := by rw [eh549, mh_up_ne n_q143_q546]; exact f535
  have n_q172_q546 : q172 ≠ q546 := fun z => by rw [z, e547] at f536; cases f536
  have f562 : h548 q172 = some (.inl (6, 13, .inr (.inr (.inr (.inr (fun i => if i < 13 then some (a173 i) else none)))))) := by rw [eh549, mh_up_ne n_q172_q546]; exact f536
  have n_a173_q546 : ∀ i, i < 13 → a173 i ≠ q546 := fun i hi z => by have w := f537 i hi; rw [z, e547] at w; cases w
  have f563 : ∀ i, i < 13 → h548 (a173 i) = some (.inl (1, (3001, .inr (.inl (fun _ => 0))))) := fun i hi => by rw [eh549, mh_up_ne (n_a173_q546 i hi)]; exact f537 i hi
  have n_q210_q546 : q210 ≠ q546 := fun z => by rw [z, e547] at f538; cases f538
  have f564 : h548 q210 = some (mh_Ni 24) := by rw [eh549, mh_up_ne n_q210_q546]; exact f538
  have n_q245_q546 : q245 ≠ q546 := fun z => by rw [z, e547] at f539; cases f539
  have f565 : h548 q245 = some (mh_Ni 12) := by rw [eh549, mh_up_ne n_q245_q546]; exact f539
  have n_q282_q546 : q282 ≠ q546 := fun z => by rw [z, e547] at f540; cases f540
  have f566 : h548 q282 = some (mh_Ni 12) := by rw [eh549, mh_up_ne n_q282_q546]; exact f540
  have n_q321_q546 : q321 ≠ q546 := fun z => by rw [z, e547] at f541; cases f541
  have f567 : h548 q321 = some (mh_Ni 2400) := by rw [eh549, mh_up_ne n_q321_q546]; exact f541
  have n_q362_q546 : q362 ≠ q546 := fun z => by rw [z, e547] at f542; cases f542
  have f568 : h548 q362 = some (mh_Ni 12) := by rw [eh549, mh_up_ne n_q362_q546]; exact f542
  have n_q405_q546 : q405 ≠ q546 := fun z => by rw [z, e547] at f543; cases f543
  have f569 : h548 q405 = some (mh_Ni 200) := by rw [eh549, mh_up_ne n_q405_q546]; exact f543
  have n_q450_q546 : q450 ≠ q546 := fun z => by rw [z, e547] at f544; cases f544
  have f570 : h548 q450 = some (mh_Ni 6) := by rw [eh549, mh_up_ne n_q450_q546]; exact f544
  have n_q497_q546 : q497 ≠ q546 := fun z => by rw [z, e547] at f545; cases f545
  have f571 : h548 q497 = some (mh_Ni 6) := by rw [eh549, mh_up_ne n_q497_q546]; exact f545
  have f572 : h548 q546 = some (mh_Ni 3902) := by rw [eh549]; exact mh_up_eq _ _ _
  refine mh_putF cx wd hin (ci := 12) (k := 29) (C := RX12) (T := TX12) (N := 38) (ty0 := tyX12) (ty := (.array .int)) ob552 rfl (by decide) uw_X12 (mh_in 1245 (by decide +kernel) (by decide +kernel)) tyX12_ok nmX12 rfl rfl (by decide +kernel) rfl rfl (Nat.le_of_ble_eq_true rfl) dX12_init_160 (fun H locs wd => ?_)
  obtain ⟨h573, eh574⟩ : ∃ x, x = mh_up h548 o (.inr (12, [.int 0, .ref q1, .ref q14, .int 0, .int 0, .int 0, .ref q36, .int (-1), .ref q63, .ref q91, .ref q116, .ref q143, .ref q172, .ref q210, .int 0, .int 0, .int 0, .ref q245, .ref q282, .ref q321, .ref q362, .ref q405, .int 0, .int 0, .ref q450, .ref q497, .int 0, .int 0, .int 0, .ref q546, .null, .null, .null, .null, .null, .null, .null, .null])) := ⟨_, rfl⟩
  have wd : mh_W D ks L (mh_A L0 s.heap.size) s.heap h573 H locs := by rw [eh574]; exact wd
  have R575 : mh_Rg h o h573 ((((((((((((((((([] ++ [q1]) ++ q14 :: (List.range 21).map a15) ++ [q36]) ++ q63 :: (List.range 13).map a64) ++ [q91]) ++ [q116]) ++ [q143]) ++ q172 :: (List.range 13).map a173) ++ [q210]) ++ [q245]) ++ [q282]) ++ [q321]) ++ [q362]) ++ [q405]) ++ [q450]) ++ [q497]) ++ [q546]) := by rw [eh574]; exact R550.set
  have ob576 : h573 o = some (.inr (12, [.int 0, .ref q1, .ref q14, .int 0, .int 0, .int 0, .ref q36, .int (-1), .ref q63, .ref q91, .ref q116, .ref q143, .ref q172, .ref q210, .int 0, .int 0, .int 0, .ref q245, .ref q282, .ref q321, .ref q362, .ref q405, .int 0, .int 0, .ref q450, .ref q497, .int 0, .int 0, .int 0, .ref q546, .null, .null, .null, .null, .null, .null, .null, .null])) := by rw [eh574]; exact mh_up_eq _ _ _
  have f577 : h573 q1 = some (mh_Ni 304) := by rw [eh574, mh_up_ne n6]; exact f553
  have f578 : h573 q14 = some (.inl (5, 21, .inr (.inr (.inr (.inr (fun i => if i < 21 then some (a15 i) else none)))))) := by rw [eh574, mh_up_ne n22]; exact f554
  have f579 : ∀ i, i < 21 → h573 (a15 i) = some (.inl (0, (304, .inl (fun _ => 0)))) := fun i hi => by rw [eh574, mh_up_ne (n23 i hi)]; exact f555 i hi
  have f580 : h573 q36 = some (mh_Ni 12) := by rw [eh574, mh_up_ne n41]; exact f556
  have f581 : h573 q63 = some (.inl (5, 13, .inr (.inr (.inr (.inr (fun i => if i < 13 then some (a64 i) else none)))))) := by rw [eh574, mh_up_ne n71]; exact f557
  have f582 : ∀ i, i < 13 → h573 (a64 i) = some (.inl (0, (100301, .inl (fun _ => 0)))) := fun i hi => by rw [eh574, mh_up_ne (n72 i hi)]; exact f558 i hi
  have f583 : h573 q91 = some (mh_Nz 200001) := by rw [eh574, mh_up_ne n96]; exact f559
  have f584 : h573 q116 = some (mh_Nz 200001) := by rw [eh574, mh_up_ne n121]; exact f560
  have f585 : h573 q143 = some (mh_Nz 200001) := by rw [eh574, mh_up_ne n148]; exact f561
  have f586 : h573 q172 = some (.inl (6, 13, .inr (.inr (.inr (.inr (fun i => if i < 13 then some (a173 i) else none)))))) := by rw [eh574, mh_up_ne n180]; exact f562
  have f587 : ∀ i, i < 13 → h573 (a173 i) = some (.inl (1, (3001, .inr (.inl (fun _ => 0))))) := fun i hi => by rw [eh574, mh_up_ne (n181 i hi)]; exact f563 i hi
  have f588 : h573 q210 = some (mh_Ni 24) := by rw [eh574, mh_up_ne n215]; exact f564
  have f589 : h573 q245 = some (mh_Ni 12) := by rw [eh574, mh_up_ne n250]; exact f565
  have f590 : h573 q282 = some (mh_Ni 12) := by rw [eh574, mh_up_ne n287]; exact f566
  have f591 : h573 q321 = some (mh_Ni 2400) := by rw [eh574, mh_up_ne n326]; exact f567
  have f592 : h573 q362 = some (mh_Ni 12) := by rw [eh574, mh_up_ne n367]; exact f568
  have f593 : h573 q405 = some (mh_Ni 200) := by rw [eh574, mh_up_ne n410]; exact f569
  have f594 : h573 q450 = some (mh_Ni 6) := by rw [eh574, mh_up_ne n455]; exact f570
  have f595 : h573 q497 = some (mh_Ni 6) := by rw [eh574, mh_up_ne n502]; exact f571
  have f596 : h573 q546 = some (mh_Ni 3902) := by rw [eh574, mh_up_ne n551]; exact f572
  refine lv_aload_n hx hb dX12_init_163 rfl (lv_at hl 0 rfl) ?_
  refine lv_bipush (v := 13) hx hb dX12_init_164 (by decide) ?_
  refine lv_sipush (v := 20001) hx hb dX12_init_166 (by decide) ?_
  refine mh_nwm cx wd 5 0 (ty := .int) (N' := 13) (K' := 20001) (z := (20001, .inl (fun _ => 0))) rfl (cx.2.1.2 0 _ rfl).2 ao.2.2.1 (mh_in 1212 (by decide +kernel) (by decide +kernel)) wo_int (by decide) (by decide) rfl rfl (by decide) (by decide) (by decide) rfl rfl (Nat.le_of_ble_eq_true rfl) (Nat.le_of_ble_eq_true rfl) (mh_inI 20001) dX12_init_169 (fun q597 a598 L H e599 e600 e601 wd => ?_)
  obtain ⟨h602, eh603⟩ : ∃ x, x = mh_rws h573 q597 (.inl (5, 13, .inr (.inr (.inr (.inr (fun i => if i < 13 then some (a598 i) else none)))))) ((List.range 13).map a598) (.inl (0, (20001, .inl (fun _ => 0)))) := ⟨_, rfl⟩
  rw [← eh603] at wd
  have R604 : mh_Rg h o h602 (((((((((((((((((([] ++ [q1]) ++ q14 :: (List.range 21).map a15) ++ [q36]) ++ q63 :: (List.range 13).map a64) ++ [q91]) ++ [q116]) ++ [q143]) ++ q172 :: (List.range 13).map a173) ++ [q210]) ++ [q245]) ++ [q282]) ++ [q321]) ++ [q362]) ++ [q405]) ++ [q450]) ++ [q497]) ++ [q546]) ++ q597 :: (List.range 13).map a598) := by rw [eh603]; exact R575.rows e599 e600 e601
  have n605 : q597 ≠ o := fun z => by rw [z, ob576] at e599; cases e599
  have n606 : ∀ i, i < 13 → a598 i ≠ o := fun i hi z => by have w := (e600 i hi).1; rw [z, ob576] at w; cases w
  have k607 : ∀ b, h573 b ≠ none → h602 b = h573 b := fun b hb => by rw [eh603]; exact mh_rws_ne (fun z => hb (by rw [z]; exact e599)) (fun i hi z => hb (by rw [z]; exact (e600 i hi).1))
  have ob608 : h602 o = some (.inr (12, [.int 0, .ref q1, .ref q14, .int 0, .int 0, .int 0, .ref q36, .int (-1), .ref q63, .ref q91, .ref q116, .ref q143, .ref q172, .ref q210, .int 0, .int 0, .int 0, .ref q245, .ref q282, .ref q321, .ref q362, .ref q405, .int 0, .int 0, .ref q450, .ref q497, .int 0, .int 0, .int 0, .ref q546, .null, .null, .null, .null, .null, .null, .null, .null])) := (k607 o (by rw [ob576]; exact fun z => by cases z)).trans ob576
  have f609 : h602 q1 = some (mh_Ni 304) := (k607 _ (by rw [f577]; exact fun z => by cases z)).trans f577
  have f610 : h602 q14 = some (.inl (5, 21, .inr (.inr (.inr (.inr (fun i => if i < 21 then some (a15 i) else none)))))) := (k607 _ (by rw [f578]; exact fun z => by cases z)).trans f578
  have f611 : ∀ i, i < 21 → h602 (a15 i) = some (.inl (0, (304, .inl (fun _ => 0)))) := fun i hi => (k607 _ (by rw [f579 i hi]; exact fun z => by cases z)).trans (f579 i hi)
  have f612 : h602 q36 = some (mh_Ni 12) := (k607 _ (by rw [f580]; exact fun z => by cases z)).trans f580
  have f613 : h602 q63 = some (.inl (5, 13, .inr (.inr (.inr (.inr (fun i => if i < 13 then some (a64 i) else none)))))) := (k607 _ (by rw [f581]; exact fun z => by cases z)).trans f581
  have f614 : ∀ i, i < 13 → h602 (a64 i) = some (.inl (0, (100301, .inl (fun _ => 0)))) := fun i hi => (k607 _ (by rw [f582 i hi]; exact fun z => by cases z)).trans (f582 i hi)
  have f615 : h602 q91 = some (mh_Nz 200001) := (k607 _ (by rw [f583]; exact fun z => by cases z)).trans f583
  have f616 : h602 q116 = some (mh_Nz 200001) := (k607 _ (by rw [f584]; exact fun z => by cases z)).trans f584
  have f617 : h602 q143 = some (mh_Nz 200001) := (k607 _ (by rw [f585]; exact fun z => by cases z)).trans f585
  have f618 : h602 q172 = some (.inl (6, 13, .inr (.inr (.inr (.inr (fun i => if i < 13 then some (a173 i) else none)))))) := (k607 _ (by rw [f586]; exact fun z => by cases z)).trans f586
  have f619 : ∀ i, i < 13 → h602 (a173 i) = some (.inl (1, (3001, .inr (.inl (fun _ => 0))))) := fun i hi => (k607 _ (by rw [f587 i hi]; exact fun z => by cases z)).trans (f587 i hi)
  have f620 : h602 q210 = some (mh_Ni 24) := (k607 _ (by rw [f588]; exact fun z => by cases z)).trans f588
  have f621 : h602 q245 = some (mh_Ni 12) := (k607 _ (by rw [f589]; exact fun z => by cases z)).trans f589
  have f622 : h602 q282 = some (mh_Ni 12) := (k607 _ (by rw [f590]; exact fun z => by cases z)).trans f590
  have f623 : h602 q321 = some (mh_Ni 2400) := (k607 _ (by rw [f591]; exact fun z => by cases z)).trans f591
  have f624 : h602 q362 = some (mh_Ni 12) := (k607 _ (by rw [f592]; exact fun z => by cases z)).trans f592
  have f625 : h602 q405 = some (mh_Ni 200) := (k607 _ (by rw [f593]; exact fun z => by cases z)).trans f593
  have f626 : h602 q450 = some (mh_Ni 6) := (k607 _ (by rw [f594]; exact fun z => by cases z)).trans f594
  have f627 : h602 q497 = some (mh_Ni 6) := (k607 _ (by rw [f595]; exact fun z => by cases z)).trans f595
  have f628 : h602 q546 = some (mh_Ni 3902) := (k607 _ (by rw [f596]; exact fun z => by cases z)).trans f596
  have f629 : h602 q597 = some (.inl (5, 13, .inr (.inr (.inr (.inr (fun i => if i < 13 then some (a598 i) else none)))))) := by rw [eh603]; exact if_pos rfl
  have f630 : ∀ i, i < 13 → h602 (a598 i) = some (.inl (0, (20001, .inl (fun _ => 0)))) := fun i hi => by rw [eh603]; exact mh_rws_in (e600 i hi).2 hi
  refine mh_putF cx wd hin (ci := 12) (k := 30) (C := RX12) (T := TX12) (N := 38) (ty0 := tyX12) (ty := (.array (.array .int))) ob608 rfl (by decide) uw_X12 (mh_in 1246 (by decide +kernel) (by decide +kernel)) tyX12_ok nmX12 rfl rfl (by decide +kernel) rfl rfl (Nat.le_of_ble_eq_true rfl) dX12_init_173 (fun H locs wd => ?_)
  obtain ⟨h631, eh632⟩ : ∃ x, x = mh_up h602 o (.inr (12, [.int 0, .ref q1, .ref q14, .int 0, .int 0, .int 0, .ref q36, .int (-1), .ref q63, .ref q91, .ref q116, .ref q143, .ref q172, .ref q210, .int 0, .int 0, .int 0, .ref q245, .ref q282, .ref q321, .ref q362, .ref q405, .int 0, .int 0, .ref q450, .ref q497, .int 0, .int 0, .int 0, .ref q546, .ref q597, .null, .null, .null, .null, .null, .null, .null])) := ⟨_, rfl⟩
  have wd : mh_W D ks L (mh_A L0 s.heap.size) s.heap h631 H locs := by rw [eh632]; exact wd
  have R633 : mh_Rg h o h631 (((((((((((((((((([] ++ [q1]) ++ q14 :: (List.range 21).map a15) ++ [q36]) ++ q63 :: (List.range 13).map a64) ++ [q91]) ++ [q116]) ++ [q143]) ++ q172 :: (List.range 13).map a173) ++ [q210]) ++ [q245]) ++ [q282]) ++ [q321]) ++ [q362]) ++ [q405]) ++ [q450]) ++ [q497]) ++ [q546]) ++ q597 :: (List.range 13).map a598) := by rw [eh632]; exact R604.set
  have ob634 : h631 o = some (.inr (12, [.int 0, .ref q1, .ref q14, .int 0, .int 0, .int 0, .ref q36, .int (-1), .ref q63, .ref q91, .ref q116, .ref q143, .ref q172, .ref q210, .int 0, .int 0, .int 0, .ref q245, .ref q282, .ref q321, .ref q362, .ref q405, .int 0, .int 0, .ref q450, .ref q497, .int 0, .int 0, .int 0, .ref q546, .ref q597, .null, .null, .null, .null, .null, .null, .null])) := by rw [eh632]; exact mh_up_eq _ _ _
  have f635 : h631 q1 = some (mh_Ni 304) := by rw [eh632, mh_up_ne n6]; exact f609
  have f636 : h631 q14 = some (.inl (5, 21, .inr (.inr (.inr (.inr (fun i => if i < 21 then some (a15 i) else none)))))) := by rw [eh632, mh_up_ne n22]; exact f610
  have f637 : ∀ i, i < 21 → h631 (a15 i) = some (.inl (0, (304, .inl (fun _ => 0)))) := fun i hi => by rw [eh632, mh_up_ne (n23 i hi)]; exact f611 i hi
  have f638 : h631 q36 = some (mh_Ni 12) := by rw [eh632, mh_up_ne n41]; exact f612
  have f639 : h631 q63 = some (.inl (5, 13, .inr (.inr (.inr (.inr (fun i => if i < 13 then some (a64 i) else none)))))) := by rw [eh632, mh_up_ne n71]; exact f613
  have f640 : ∀ i, i < 13 → h631 (a64 i) = some (.inl (0, (100301, .inl (fun _ => 0)))) := fun i hi => by rw [eh632, mh_up_ne (n72 i hi)]; exact f614 i hi
  have f641 : h631 q91 = some (mh_Nz 200001) := by rw [eh632, mh_up_ne n96]; exact f615
  have f642 : h631 q116 = some (mh_Nz 200001) := by rw [eh632, mh_up_ne n121]; exact f616
  have f643 : h631 q143 = some (mh_Nz 200001) := by rw [eh632, mh_up_ne n148]; exact f617
  have f644 : h631 q172 = some (.inl (6, 13, .inr (.inr (.inr (.inr (fun i => if i < 13 then some (a173 i) else none)))))) := by rw [eh632, mh_up_ne n180]; exact f618
  have f645 : ∀ i, i < 13 → h631 (a173 i) = some (.inl (1, (3001, .inr (.inl (fun _ => 0))))) := fun i hi => by rw [eh632, mh_up_ne (n181 i hi)]; exact f619 i hi
  have f646 : h631 q210 = some (mh_Ni 24) := by rw [eh632, mh_up_ne n215]; exact f620
  have f647 : h631 q245 = some (mh_Ni 12) := by rw [eh632, mh_up_ne n250]; exact f621
  have f648 : h631 q282 = some (mh_Ni 12) := by rw [eh632, mh_up_ne n287]; exact f622
  have f649 : h631 q321 = some (mh_Ni 2400) := by rw [eh632, mh_up_ne n326]; exact f623
  have f650 : h631 q362 = some (mh_Ni 12) := by rw [eh632, mh_up_ne n367]; exact f624
  have f651 : h631 q405 = some (mh_Ni 200) := by rw [eh632, mh_up_ne n410]; exact f625
  have f652 : h631 q450 = some (mh_Ni 6) := by rw [eh632, mh_up_ne n455]; exact f626
  have f653 : h631 q497 = some (mh_Ni 6) := by rw [eh632, mh_up_ne n502]; exact f627
  have f654 : h631 q546 = some (mh_Ni 3902) := by rw [eh632, mh_up_ne n551]; exact f628
  have f655 : h631 q597 = some (.inl (5, 13, .inr (.inr (.inr (.inr (fun i => if i < 13 then some (a598 i) else none)))))) := by rw [eh632, mh_up_ne n605]; exact f629
  have f656 : ∀ i, i < 13 → h631 (a598 i) = some (.inl (0, (20001, .inl (fun _ => 0)))) := fun i hi => by rw [eh632, mh_up_ne (n606 i hi)]; exact f630 i hi
  refine lv_aload_n hx hb dX12_init_176 rfl (lv_at hl 0 rfl) ?_
  refine lv_bipush (v := 13) hx hb dX12_init_177 (by decide) ?_
  refine lv_sipush (v := 20001) hx hb dX12_init_179 (by decide) ?_
  refine mh_nwm cx wd 5 0 (ty := .int) (N' := 13) (K' := 20001) (z := (20001, .inl (fun _ => 0))) rfl (cx.2.1.2 0 _ rfl).2 ao.2.2.1 (mh_in 1212 (by decide +kernel) (by decide +kernel)) wo_int (by decide) (by decide) rfl rfl (by decide) (by decide) (by decide) rfl rfl (Nat.le_of_ble_eq_true rfl) (Nat.le_of_ble_eq_true rfl) (mh_inI 20001) dX12_init_182 (fun q657 a658 L H e659 e660 e661 wd => ?_)
  obtain ⟨h662, eh663⟩ : ∃ x, x = mh_rws h631 q657 (.inl (5, 13, .inr (.inr (.inr (.inr (fun i => if i < 13 then some (a658 i) else none)))))) ((List.range 13).map a658) (.inl (0, (20001, .inl (fun _ => 0)))) := ⟨_, rfl⟩
  rw [← eh663] at wd
  have R664 : mh_Rg h o h662 ((((((((((((((((((([] ++ [q1]) ++ q14 :: (List.range 21).map a15) ++ [q36]) ++ q63 :: (List.range 13).map a64) ++ [q91]) ++ [q116]) ++ [q143]) ++ q172 :: (List.range 13).map a173) ++ [q210]) ++ [q245]) ++ [q282]) ++ [q321]) ++ [q362]) ++ [q405]) ++ [q450]) ++ [q497]) ++ [q546]) ++ q597 :: (List.range 13).map a598) ++ q657 :: (List.range 13).map a658) := by rw [eh663]; exact R633.rows e659 e660 e661
  have n665 : q657 ≠ o := fun z => by rw [z, ob634] at e659; cases e659
  have n666 : ∀ i, i < 13 → a658 i ≠ o := fun i hi z => by have w := (e660 i hi).1; rw [z, ob634] at w; cases w
  have k667 : ∀ b, h631 b ≠ none → h662 b = h631 b := fun b hb => by rw [eh663]; exact mh_rws_ne (fun z => hb (by rw [z]; exact e659)) (fun i hi z => hb (by rw [z]; exact (e660 i hi).1))
  have ob668 : h662 o = some (.inr (12, [.int 0, .ref q1, .ref q14, .int 0, .int 0, .int 0, .ref q36, .int (-1), .ref q63, .ref q91, .ref q116, .ref q143, .ref q172, .ref q210, .int 0, .int 0, .int 0, .ref q245, .ref q282, .ref q321, .ref q362, .ref q405, .int 0, .int 0, .ref q450, .ref q497, .int 0, .int 0, .int 0, .ref q546, .ref q597, .null, .null, .null, .null, .null, .null, .null])) := (k667 o (by rw [ob634]; exact fun z => by cases z)).trans ob634
  have f669 : h662 q1 = some (mh_Ni 304) := (k667 _ (by rw [f635]; exact fun z => by cases z)).trans f635
  have f670 : h662 q14 = some (.inl (5, 21, .inr (.inr (.inr (.inr (fun i => if i < 21 then some (a15 i) else none)))))) := (k667 _ (by rw [f636]; exact fun z => by cases z)).trans f636
  have f671 : ∀ i, i < 21 → h662 (a15 i) = some (.inl (0, (304, .inl (fun _ => 0)))) := fun i hi => (k667 _ (by rw [f637 i hi]; exact fun z => by cases z)).trans (f637 i hi)
  have f672 : h662 q36 = some (mh_Ni 12) := (k667 _ (by rw [f638]; exact fun z => by cases z)).trans f638
  have f673 : h662 q63 = some (.inl (5, 13, .inr (.inr (.inr (.inr (fun i => if i < 13 then some (a64 i) else none)))))) := (k667 _ (by rw [f639]; exact fun z => by cases z)).trans f639
  have f674 : ∀ i, i < 13 → h662 (a64 i) = some (.inl (0, (100301, .inl (fun _ => 0)))) := fun i hi => (k667 _ (by rw [f640 i hi]; exact fun z => by cases z)).trans (f640 i hi)
  have f675 : h662 q91 = some (mh_Nz 200001) := (k667 _ (by rw [f641]; exact fun z => by cases z)).trans f641
  have f676 : h662 q116 = some (mh_Nz 200001) := (k667 _ (by rw [f642]; exact fun z => by cases z)).trans f642
  have f677 : h662 q143 = some (mh_Nz 200001) := (k667 _ (by rw [f643]; exact fun z => by cases z)).trans f643
  have f678 : h662 q172 = some (.inl (6, 13, .inr (.inr (.inr (.inr (fun i => if i < 13 then some (a173 i) else none)))))) := (k667 _ (by rw [f644]; exact fun z => by cases z)).trans f644
  have f679 : ∀ i, i < 13 → h662 (a173 i) = some (.inl (1, (3001, .inr (.inl (fun _ => 0))))) := fun i hi => (k667 _ (by rw [f645 i hi]; exact fun z => by cases z)).trans (f645 i hi)
  have f680 : h662 q210 = some (mh_Ni 24) := (k667 _ (by rw [f646]; exact fun z => by cases z)).trans f646
  have f681 : h662 q245 = some (mh_Ni 12) := (k667 _ (by rw [f647]; exact fun z => by cases z)).trans f647
  have f682 : h662 q282 = some (mh_Ni 12) := (k667 _ (by rw [f648]; exact fun z => by cases z)).trans f648
  have f683 : h662 q321 = some (mh_Ni 2400) := (k667 _ (by rw [f649]; exact fun z => by cases z)).trans f649
  have f684 : h662 q362 = some (mh_Ni 12) := (k667 _ (by rw [f650]; exact fun z => by cases z)).trans f650
  have f685 : h662 q405 = some (mh_Ni 200) := (k667 _ (by rw [f651]; exact fun z => by cases z)).trans f651
  have f686 : h662 q450 = some (mh_Ni 6) := (k667 _ (by rw [f652]; exact fun z => by cases z)).trans f652
  have f687 : h662 q497 = some (mh_Ni 6) := (k667 _ (by rw [f653]; exact fun z => by cases z)).trans f653
  have f688 : h662 q546 = some (mh_Ni 3902) := (k667 _ (by rw [f654]; exact fun z => by cases z)).trans f654
  have f689 : h662 q597 = some (.inl (5, 13, .inr (.inr (.inr (.inr (fun i => if i < 13 then some (a598 i) else none)))))) := (k667 _ (by rw [f655]; exact fun z => by cases z)).trans f655
  have f690 : ∀ i, i < 13 → h662 (a598 i) = some (.inl (0, (20001, .inl (fun _ => 0)))) := fun i hi => (k667 _ (by rw [f656 i hi]; exact fun z => by cases z)).trans (f656 i hi)
  have f691 : h662 q657 = some (.inl (5, 13, .inr (.inr (.inr (.inr (fun i => if i < 13 then some (a658 i) else none)))))) := by rw [eh663]; exact if_pos rfl
  have f692 : ∀ i, i < 13 → h662 (a658 i) = some (.inl (0, (20001, .inl (fun _ => 0)))) := fun i hi => by rw [eh663]; exact mh_rws_in (e660 i hi).2 hi
  refine mh_putF cx wd hin (ci := 12) (k := 31) (C := RX12) (T := TX12) (N := 38) (ty0 := tyX12) (ty := (.array (.array .int))) ob668 rfl (by decide) uw_X12 (mh_in 1247 (by decide +kernel) (by decide +kernel)) tyX12_ok nmX12 rfl rfl (by decide +kernel) rfl rfl (Nat.le_of_ble_eq_true rfl) dX12_init_186 (fun H locs wd => ?_)
  obtain ⟨h693, eh694⟩ : ∃ x, x = mh_up h662 o (.inr (12, [.int 0, .ref q1, .ref q14, .int 0, .int 0, .int 0, .ref q36, .int (-1), .ref q63, .ref q91, .ref q116, .ref q143, .ref q172, .ref q210, .int 0, .int 0, .int 0, .ref q245, .ref q282, .ref q321, .ref q362, .ref q405, .int 0, .int 0, .ref q450, .ref q497, .int 0, .int 0, .int 0, .ref q546, .ref q597, .ref q657, .null, .null, .null, .null, .null, .null])) := ⟨_, rfl⟩
  have wd : mh_W D ks L (mh_A L0 s.heap.size) s.heap h693 H locs := by rw [eh694]; exact wd
  have R695 : mh_Rg h o h693 ((((((((((((((((((([] ++ [q1]) ++ q14 :: (List.range 21).map a15) ++ [q36]) ++ q63 :: (List.range 13).map a64) ++ [q91]) ++ [q116]) ++ [q143]) ++ q172 :: (List.range 13).map a173) ++ [q210]) ++ [q245]) ++ [q282]) ++ [q321]) ++ [q362]) ++ [q405]) ++ [q450]) ++ [q497]) ++ [q546]) ++ q597 :: (List.range 13).map a598) ++ q657 :: (List.range 13).map a658) := by rw [eh694]; exact R664.set
  have ob696 : h693 o = some (.inr (12, [.int 0, .ref q1, .ref q14, .int 0, .int 0, .int 0, .ref q36, .int (-1), .ref q63, .ref q91, .ref q116, .ref q143, .ref q172, .ref q210, .int 0, .int 0, .int 0, .ref q245, .ref q282, .ref q321, .ref q362, .ref q405, .int 0, .int 0, .ref q450, .ref q497, .int 0, .int 0, .int 0, .ref q546, .ref q597, .ref q657, .null, .null, .null, .null, .null, .null])) := by rw [eh694]; exact mh_up_eq _ _ _
  have f697 : h693 q1 = some (mh_Ni 304) := by rw [eh694, mh_up_ne n6]; exact f669
  have f698 : h693 q14 = some (.inl (5, 21, .inr (.inr (.inr (.inr (fun i => if i < 21 then some (a15 i) else none)))))) := by rw [eh694, mh_up_ne n22]; exact f670
  have f699 : ∀ i, i < 21 → h693 (a15 i) = some (.inl (0, (304, .inl (fun _ => 0)))) := fun i hi => by rw [eh694, mh_up_ne (n23 i hi)]; exact f671 i hi
  have f700 : h693 q36 = some (mh_Ni 12) := by rw [eh694, mh_up_ne n41]; exact f672
  have f701 : h693 q63 = some (.inl (5, 13, .inr (.inr (.inr (.inr (fun i => if i < 13 then some (a64 i) else none)))))) := by rw [eh694, mh_up_ne n71]; exact f673
  have f702 : ∀ i, i < 13 → h693 (a64 i) = some (.inl (0, (100301, .inl (fun _ => 0)))) := fun i hi => by rw [eh694, mh_up_ne (n72 i hi)]; exact f674 i hi
  have f703 : h693 q91 = some (mh_Nz 200001) := by rw [eh694, mh_up_ne n96]; exact f675
  have f704 : h693 q116 = some (mh_Nz 200001) := by rw [eh694, mh_up_ne n121]; exact f676
  have f705 : h693 q143 = some (mh_Nz 200001) := by rw [eh694, mh_up_ne n148]; exact f677
  have f706 : h693 q172 = some (.inl (6, 13, .inr (.inr (.inr (.inr (fun i => if i < 13 then some (a173 i) else none)))))) := by rw [eh694, mh_up_ne n180]; exact f678
  have f707 : ∀ i, i < 13 → h693 (a173 i) = some (.inl (1, (3001, .inr (.inl (fun _ => 0))))) := fun i hi => by rw [eh694, mh_up_ne (n181 i hi)]; exact f679 i hi
  have f708 : h693 q210 = some (mh_Ni 24) := by rw [eh694, mh_up_ne n215]; exact f680
  have f709 : h693 q245 = some (mh_Ni 12) := by rw [eh694, mh_up_ne n250]; exact f681
  have f710 : h693 q282 = some (mh_Ni 12) := by rw [eh694, mh_up_ne n287]; exact f682
  have f711 : h693 q321 = some (mh_Ni 2400) := by rw [eh694, mh_up_ne n326]; exact f683
  have f712 : h693 q362 = some (mh_Ni 12) := by rw [eh694, mh_up_ne n367]; exact f684
  have f713 : h693 q405 = some (mh_Ni 200) := by rw [eh694, mh_up_ne n410]; exact f685
  have f714 : h693 q450 = some (mh_Ni 6) := by rw [eh694, mh_up_ne n455]; exact f686
  have f715 : h693 q497 = some (mh_Ni 6) := by rw [eh694, mh_up_ne n502]; exact f687
  have f716 : h693 q546 = some (mh_Ni 3902) := by rw [eh694, mh_up_ne n551]; exact f688
  have f717 : h693 q597 = some (.inl (5, 13, .inr (.inr (.inr (.inr (fun i => if i < 13 then some (a598 i) else none)))))) := by rw [eh694, mh_up_ne n605]; exact f689
  have f718 : ∀ i, i < 13 → h693 (a598 i) = some (.inl (0, (20001, .inl (fun _ => 0)))) := fun i hi => by rw [eh694, mh_up_ne (n606 i hi)]; exact f690 i hi
  have f719 : h693 q657 = some (.inl (5, 13, .inr (.inr (.inr (.inr (fun i => if i < 13 then some (a658 i) else none)))))) := by rw [eh694, mh_up_ne n665]; exact f691
  have f720 : ∀ i, i < 13 → h693 (a658 i) = some (.inl (0, (20001, .inl (fun _ => 0)))) := fun i hi => by rw [eh694, mh_up_ne (n666 i hi)]; exact f692 i hi
  refine lv_aload_n hx hb dX12_init_189 rfl (lv_at hl 0 rfl) ?_
  refine mh_ldc cx (show Cond.constant RX12 25 (100301) ∈ mh_TB from (mh_in 1213 (by decide +kernel) (by decide +kernel))) dX12_init_190 ?_
  refine mh_nwi (N' := 100301) cx wd wo_int (by decide) rfl (by decide) (Nat.le_of_ble_eq_true rfl) (Nat.le_of_ble_eq_true rfl) dX12_init_192 (fun q721 L H e722 wd => ?_)
  obtain ⟨h723, eh724⟩ : ∃ x, x = mh_up h693 q721 (mh_Ni 100301) := ⟨_, rfl⟩
  rw [← eh724] at wd
  have R725 : mh_Rg h o h723 (((((((((((((((((((([] ++ [q1]) ++ q14 :: (List.range 21).map a15) ++ [q36]) ++ q63 :: (List.range 13).map a64) ++ [q91]) ++ [q116]) ++ [q143]) ++ q172 :: (List.range 13).map a173) ++ [q210]) ++ [q245]) ++ [q282]) ++ [q321]) ++ [q362]) ++ [q405]) ++ [q450]) ++ [q497]) ++ [q546]) ++ q597 :: (List.range 13).map a598) ++ q657 :: (List.range 13).map a658) ++ [q721]) := by rw [eh724]; exact R695.add e722
  have n726 : q721 ≠ o := fun z => by rw [z, ob696] at e722; cases e722
  have ob727 : h723 o = some (.inr (12, [.int 0, .ref q1, .ref q14, .int 0, .int 0, .int 0, .ref q36, .int (-1), .ref q63, .ref q91, .ref q116, .ref q143, .ref q172, .ref q210, .int 0, .int 0, .int 0, .ref q245, .ref q282, .ref q321, .ref q362, .ref q405, .int 0, .int 0, .ref q450, .ref q497, .int 0, .int 0, .int 0, .ref q546, .ref q597, .ref q657, .null, .null, .null, .null, .null, .null])) := by rw [eh724, mh_up_ne (fun z => n726 z.symm)]; exact ob696
  have n_q1_q721 : q1 ≠ q721 := fun z => by rw [z, e722] at f697; cases f697
  have f728 : h723 q1 = some (mh_Ni 304) := by rw [eh724, mh_up_ne n_q1_q721]; exact f697
  have n_q14_q721 : q14 ≠ q721 := fun z => by rw [z, e722] at f698; cases f698
  have f729 : h723 q14 = some (.inl (5, 21, .inr (.inr (.inr (.inr (fun i => if i < 21 then some (a15 i) else none)))))) := by rw [eh724, mh_up_ne n_q14_q721]; exact f698
  have n_a15_q721 : ∀ i, i < 21 → a15 i ≠ q721 := fun i hi z => by have w := f699 i hi; rw [z, e722] at w; cases w
  have f730 : ∀ i, i < 21 → h723 (a15 i) = some (.inl (0, (304, .inl (fun _ => 0)))) := fun i hi => by rw [eh724, mh_up_ne (n_a15_q721 i hi)]; exact f699 i hi
  have n_q36_q721 : q36 ≠ q721 := fun z => by rw [z, e722] at f700; cases f700
  have f731 : h723 q36 = some (mh_Ni 12) := by rw [eh724, mh_up_ne n_q36_q721]; exact f700
  have n_q63_q721 : q63 ≠ q721 := fun z => by rw [z, e722] at f701; cases f701
  have f732 : h723 q63 = some (.inl (5, 13, .inr (.inr (.inr (.inr (fun i => if i < 13 then some (a64 i) else none)))))) := by rw [eh724, mh_up_ne n_q63_q721]; exact f701
  have n_a64_q721 : ∀ i, i < 13 → a64 i ≠ q721 := fun i hi z => by have w := f702 i hi; rw [z, e722] at w; cases w
  have f733 : ∀ i, i < 13 → h723 (a64 i) = some (.inl (0, (100301, .inl (fun _ => 0)))) := fun i hi => by rw [eh724, mh_up_ne (n_a64_q721 i hi)]; exact f702 i hi
  have n_q91_q721 : q91 ≠ q721 := fun z => by rw [z, e722] at f703; cases f703
  have f734 : h723 q91 = some (mh_Nz 200001) := by rw [eh724, mh_up_ne n_q91_q721]; exact f703
  have n_q116_q721 : q116 ≠ q721 := fun z => by rw [z, e722] at f704; cases f704
  have f735 : h723 q116 = some (mh_Nz 200001) := by rw [eh724, mh_up_ne n_q116_q721]; exact f704
  have n_q143_q721 : q143 ≠ q721 := fun z => by rw [z, e722] at f705; cases f705
  have f736 : h723 q143 = some (mh_Nz 200001) := by rw [eh724, mh_up_ne n_q143_q721]; exact f705
  have n_q172_q721 : q172 ≠ q721 := fun z => by rw [z, e722] at f706; cases f706
  have f737 : h723 q172 = some (.inl (6, 13, .inr (.inr (.inr (.inr (fun i => if i < 13 then some (a173 i) else none)))))) := by rw [eh724, mh_up_ne n_q172_q721]; exact f706
  have n_a173_q721 : ∀ i, i < 13 → a173 i ≠ q721 := fun i hi z => by have w := f707 i hi; rw [z, e722] at w; cases w
  have f738 : ∀ i, i < 13 → h723 (a173 i) = some (.inl (1, (3001, .inr (.inl (fun _ => 0))))) := fun i hi => by rw [eh724, mh_up_ne (n_a173_q721 i hi)]; exact f707 i hi
  have n_q210_q721 : q210 ≠ q721 := fun z => by rw [z, e722] at f708; cases f708
  have f739 : h723 q210 = some (mh_Ni 24) := by rw [eh724, mh_up_ne n_q210_q721]; exact f708
  have n_q245_q721 : q245 ≠ q721 := fun z => by rw [z, e722] at f709; cases f709
  have f740 : h723 q245 = some (mh_Ni 12) := by rw [eh724, mh_up_ne n_q245_q721]; exact f709
  have n_q282_q721 : q282 ≠ q721 := fun z => by rw [z, e722] at f710; cases f710
  have f741 : h723 q282 = some (mh_Ni 12) := by rw [eh724, mh_up_ne n_q282_q721]; exact f710
  have n_q321_q721 : q321 ≠ q721 := fun z => by rw [z, e722] at f711; cases f711
  have f742 : h723 q321 = some (mh_Ni 2400) := by rw [eh724, mh_up_ne n_q321_q721]; exact f711
  have n_q362_q721 : q362 ≠ q721 := fun z => by rw [z, e722] at f712; cases f712
  have f743 : h723 q362 = some (mh_Ni 12) := by rw [eh724, mh_up_ne n_q362_q721]; exact f712
  have n_q405_q721 : q405 ≠ q721 := fun z => by rw [z, e722] at f713; cases f713
  have f744 : h723 q405 = some (mh_Ni 200) := by rw [eh724, mh_up_ne n_q405_q721]; exact f713
  have n_q450_q721 : q450 ≠ q721 := fun z => by rw [z, e722] at f714; cases f714
  have f745 : h723 q450 = some (mh_Ni 6) := by rw [eh724, mh_up_ne n_q450_q721]; exact f714
  have n_q497_q721 : q497 ≠ q721 := fun z => by rw [z, e722] at f715; cases f715
  have f746 : h723 q497 = some (mh_Ni 6) := by rw [eh724, mh_up_ne n_q497_q721]; exact f715
  have n_q546_q721 : q546 ≠ q721 := fun z => by rw [z, e722] at f716; cases f716
  have f747 : h723 q546 = some (mh_Ni 3902) := by rw [eh724, mh_up_ne n_q546_q721]; exact f716
  have n_q597_q721 : q597 ≠ q721 := fun z => by rw [z, e722] at f717; cases f717
  have f748 : h723 q597 = some (.inl (5, 13, .inr (.inr (.inr (.inr (fun i => if i < 13 then some (a598 i) else none)))))) := by rw [eh724, mh_up_ne n_q597_q721]; exact f717
  have n_a598_q721 : ∀ i, i < 13 → a598 i ≠ q721 := fun i hi z => by have w := f718 i hi; rw [z, e722] at w; cases w
  have f749 : ∀ i, i < 13 → h723 (a598 i) = some (.inl (0, (20001, .inl (fun _ => 0)))) := fun i hi => by rw [eh724, mh_up_ne (n_a598_q721 i hi)]; exact f718 i hi
  have n_q657_q721 : q657 ≠ q721 := fun z => by rw [z, e722] at f719; cases f719
  have f750 : h723 q657 = some (.inl (5, 13, .inr (.inr (.inr (.inr (fun i => if i < 13 then some (a658 i) else none)))))) := by rw [eh724, mh_up_ne n_q657_q721]; exact f719
  have n_a658_q721 : ∀ i, i < 13 → a658 i ≠ q721 := fun i hi z => by have w := f720 i hi; rw [z, e722] at w; cases w
  have f751 : ∀ i, i < 13 → h723 (a658 i) = some (.inl (0, (20001, .inl (fun _ => 0)))) := fun i hi => by rw [eh724, mh_up_ne (n_a658_q721 i hi)]; exact f720 i hi
  have f752 : h723 q721 = some (mh_Ni 100301) := by rw [eh724]; exact mh_up_eq _ _ _
  refine mh_putF cx wd hin (ci := 12) (k := 32) (C := RX12) (T := TX12) (N := 38) (ty0 := tyX12) (ty := (.array .int)) ob727 rfl (by decide) uw_X12 (mh_in 1248 (by decide +kernel) (by decide +kernel)) tyX12_ok nmX12 rfl rfl (by decide +kernel) rfl rfl (Nat.le_of_ble_eq_true rfl) dX12_init_194 (fun H locs wd => ?_)
  obtain ⟨h753, eh754⟩ : ∃ x, x = mh_up h723 o (.inr (12, [.int 0, .ref q1, .ref q14, .int 0, .int 0, .int 0, .ref q36, .int (-1), .ref q63, .ref q91, .ref q116, .ref q143, .ref q172, .ref q210, .int 0, .int 0, .int 0, .ref q245, .ref q282, .ref q321, .ref q362, .ref q405, .int 0, .int 0, .ref q450, .ref q497, .int 0, .int 0, .int 0, .ref q546, .ref q597, .ref q657, .ref q721, .null, .null, .null, .null, .null])) := ⟨_, rfl⟩
  have wd : mh_W D ks L (mh_A L0 s.heap.size) s.heap h753 H locs := by rw [eh754]; exact wd
  have R755 : mh_Rg h o h753 (((((((((((((((((((([] ++ [q1]) ++ q14 :: (List.range 21).map a15) ++ [q36]) ++ q63 :: (List.range 13).map a64) ++ [q91]) ++ [q116]) ++ [q143]) ++ q172 :: (List.range 13).map a173) ++ [q210]) ++ [q245]) ++ [q282]) ++ [q321]) ++ [q362]) ++ [q405]) ++ [q450]) ++ [q497]) ++ [q546]) ++ q597 :: (List.range 13).map a598) ++ q657 :: (List.range 13).map a658) ++ [q721]) := by rw [eh754]; exact R725.set
  have ob756 : h753 o = some (.inr (12, [.int 0, .ref q1, .ref q14, .int 0, .int 0, .int 0, .ref q36, .int (-1), .ref q63, .ref q91, .ref q116, .ref q143, .ref q172, .ref q210, .int 0, .int 0, .int 0, .ref q245, .ref q282, .ref q321, .ref q362, .ref q405, .int 0, .int 0, .ref q450, .ref q497, .int 0, .int 0, .int 0, .ref q546, .ref q597, .ref q657, .ref q721, .null, .null, .null, .null, .null])) := by rw [eh754]; exact mh_up_eq _ _ _
  have f757 : h753 q1 = some (mh_Ni 304) := by rw [eh754, mh_up_ne n6]; exact f728
  have f758 : h753 q14 = some (.inl (5, 21, .inr (.inr (.inr (.inr (fun i => if i < 21 then some (a15 i) else none)))))) := by rw [eh754, mh_up_ne n22]; exact f729
  have f759 : ∀ i, i < 21 → h753 (a15 i) = some (.inl (0, (304, .inl (fun _ => 0)))) := fun i hi => by rw [eh754, mh_up_ne (n23 i hi)]; exact f730 i hi
  have f760 : h753 q36 = some (mh_Ni 12) := by rw [eh754, mh_up_ne n41]; exact f731
  have f761 : h753 q63 = some (.inl (5, 13, .inr (.inr (.inr (.inr (fun i => if i < 13 then some (a64 i) else none)))))) := by rw [eh754, mh_up_ne n71]; exact f732
  have f762 : ∀ i, i < 13 → h753 (a64 i) = some (.inl (0, (100301, .inl (fun _ => 0)))) := fun i hi => by rw [eh754, mh_up_ne (n72 i hi)]; exact f733 i hi
  have f763 : h753 q91 = some (mh_Nz 200001) := by rw [eh754, mh_up_ne n96]; exact f734
  have f764 : h753 q116 = some (mh_Nz 200001) := by rw [eh754, mh_up_ne n121]; exact f735
  have f765 : h753 q143 = some (mh_Nz 200001) := by rw [eh754, mh_up_ne n148]; exact f736
  have f766 : h753 q172 = some (.inl (6, 13, .inr (.inr (.inr (.inr (fun i => if i < 13 then some (a173 i) else none)))))) := by rw [eh754, mh_up_ne n180]; exact f737
  have f767 : ∀ i, i < 13 → h753 (a173 i) = some (.inl (1, (3001, .inr (.inl (fun _ => 0))))) := fun i hi => by rw [eh754, mh_up_ne (n181 i hi)]; exact f738 i hi
  have f768 : h753 q210 = some (mh_Ni 24) := by rw [eh754, mh_up_ne n215]; exact f739
  have f769 : h753 q245 = some (mh_Ni 12) := by rw [eh754, mh_up_ne n250]; exact f740
  have f770 : h753 q282 = some (mh_Ni 12) := by rw [eh754, mh_up_ne n287]; exact f741
  have f771 : h753 q321 = some (mh_Ni 2400) := by rw [eh754, mh_up_ne n326]; exact f742
  have f772 : h753 q362 = some (mh_Ni 12) := by rw [eh754, mh_up_ne n367]; exact f743
  have f773 : h753 q405 = some (mh_Ni 200) := by rw [eh754, mh_up_ne n410]; exact f744
  have f774 : h753 q450 = some (mh_Ni 6) := by rw [eh754, mh_up_ne n455]; exact f745
  have f775 : h753 q497 = some (mh_Ni 6) := by rw [eh754, mh_up_ne n502]; exact f746
  have f776 : h753 q546 = some (mh_Ni 3902) := by rw [eh754, mh_up_ne n551]; exact f747
  have f777 : h753 q597 = some (.inl (5, 13, .inr (.inr (.inr (.inr (fun i => if i < 13 then some (a598 i) else none)))))) := by rw [eh754, mh_up_ne n605]; exact f748
  have f778 : ∀ i, i < 13 → h753 (a598 i) = some (.inl (0, (20001, .inl (fun _ => 0)))) := fun i hi => by rw [eh754, mh_up_ne (n606 i hi)]; exact f749 i hi
  have f779 : h753 q657 = some (.inl (5, 13, .inr (.inr (.inr (.inr (fun i => if i < 13 then some (a658 i) else none)))))) := by rw [eh754, mh_up_ne n665]; exact f750
  have f780 : ∀ i, i < 13 → h753 (a658 i) = some (.inl (0, (20001, .inl (fun _ => 0)))) := fun i hi => by rw [eh754, mh_up_ne (n666 i hi)]; exact f751 i hi
  have f781 : h753 q721 = some (mh_Ni 100301) := by rw [eh754, mh_up_ne n726]; exact f752
  refine lv_aload_n hx hb dX12_init_197 rfl (lv_at hl 0 rfl) ?_
  refine lv_sipush (v := 301) hx hb dX12_init_198 (by decide) ?_
  refine mh_nwz (N' := 301) cx wd wo_boolean (by decide) rfl (by decide) (Nat.le_of_ble_eq_true rfl) (Nat.le_of_ble_eq_true rfl) dX12_init_201 (fun q782 L H e783 wd => ?_)
  obtain ⟨h784, eh785⟩ : ∃ x, x = mh_up h753 q782 (mh_Nz 301) := ⟨_, rfl⟩
  rw [← eh785] at wd
  have R786 : mh_Rg h o h784 ((((((((((((((((((((([] ++ [q1]) ++ q14 :: (List.range 21).map a15) ++ [q36]) ++ q63 :: (List.range 13).map a64) ++ [q91]) ++ [q116]) ++ [q143]) ++ q172 :: (List.range 13).map a173) ++ [q210]) ++ [q245]) ++ [q282]) ++ [q321]) ++ [q362]) ++ [q405]) ++ [q450]) ++ [q497]) ++ [q546]) ++ q597 :: (List.range 13).map a598) ++ q657 :: (List.range 13).map a658) ++ [q721]) ++ [q782]) := by rw [eh785]; exact R755.add e783
  have n787 : q782 ≠ o := fun z => by rw [z, ob756] at e783; cases e783
  have ob788 : h784 o = some (.inr (12, [.int 0, .ref q1, .ref q14, .int 0, .int 0, .int 0, .ref q36, .int (-1), .ref q63, .ref q91, .ref q116, .ref q143, .ref q172, .ref q210, .int 0, .int 0, .int 0, .ref q245, .ref q282, .ref q321, .ref q362, .ref q405, .int 0, .int 0, .ref q450, .ref q497, .int 0, .int 0, .int 0, .ref q546, .ref q597, .ref q657, .ref q721, .null, .null, .null, .null, .null])) := by rw [eh785, mh_up_ne (fun z => n787 z.symm)]; exact ob756
  have n_q1_q782 : q1 ≠ q782 := fun z => by rw [z, e783] at f757; cases f757
  have f789 : h784 q1 = some (mh_Ni 304) := by rw [eh785, mh_up_ne n_q1_q782]; exact f757
  have n_q14_q782 : q14 ≠ q782 := fun z => by rw [z, e783] at f758; cases f758
  have f790 : h784 q14 = some (.inl (5, 21, .inr (.inr (.inr (.inr (fun i => if i < 21 then some (a15 i) else none)))))) := by rw [eh785, mh_up_ne n_q14_q782]; exact f758
  have n_a15_q782 : ∀ i, i < 21 → a15 i ≠ q782 := fun i hi z => by have w := f759 i hi; rw [z, e783] at w; cases w
  have f791 : ∀ i, i < 21 → h784 (a15 i) = some (.inl (0, (304, .inl (fun _ => 0)))) := fun i hi => by rw [eh785, mh_up_ne (n_a15_q782 i hi)]; exact f759 i hi
  have n_q36_q782 : q36 ≠ q782 := fun z => by rw [z, e783] at f760; cases f760
  have f792 : h784 q36 = some (mh_Ni 12) := by rw [eh785, mh_up_ne n_q36_q782]; exact f760
  have n_q63_q782 : q63 ≠ q782 := fun z => by rw [z, e783] at f761; cases f761
  have f793 : h784 q63 = some (.inl (5, 13, .inr (.inr (.inr (.inr (fun i => if i < 13 then some (a64 i) else none)))))) := by rw [eh785, mh_up_ne n_q63_q782]; exact f761
  have n_a64_q782 : ∀ i, i < 13 → a64 i ≠ q782 := fun i hi z => by have w := f762 i hi; rw [z, e783] at w; cases w
  have f794 : ∀ i, i < 13 → h784 (a64 i) = some (.inl (0, (100301, .inl (fun _ => 0)))) := fun i hi => by rw [eh785, mh_up_ne (n_a64_q782 i hi)]; exact f762 i hi
  have n_q91_q782 : q91 ≠ q782 := fun z => by rw [z, e783] at f763; cases f763
  have f795 : h784 q91 = some (mh_Nz 200001) := by rw [eh785, mh_up_ne n_q91_q782]; exact f763
  have n_q116_q782 : q116 ≠ q782 := fun z => by rw [z, e783] at f764; cases f764
  have f796 : h784 q116 = some (mh_Nz 200001) := by rw [eh785, mh_up_ne n_q116_q782]; exact f764
  have n_q143_q782 : q143 ≠ q782 := fun z => by rw [z, e783] at f765; cases f765
  have f797 : h784 q143 = some (mh_Nz 200001) := by rw [eh785, mh_up_ne n_q143_q782]; exact f765
  have n_q172_q782 : q172 ≠ q782 := fun z => by rw [z, e783] at f766; cases f766
  have f798 : h784 q172 = some (.inl (6, 13, .inr (.inr (.inr (.inr (fun i => if i < 13 then some (a173 i) else none)))))) := by rw [eh785, mh_up_ne n_q172_q782]; exact f766
  have n_a173_q782 : ∀ i, i < 13 → a173 i ≠ q782 := fun i hi z => by have w := f767 i hi; rw [z, e783] at w; cases w
  have f799 : ∀ i, i < 13 → h784 (a173 i) = some (.inl (1, (3001, .inr (.inl (fun _ => 0))))) := fun i hi => by rw [eh785, mh_up_ne (n_a173_q782 i hi)]; exact f767 i hi
  have n_q210_q782 : q210 ≠ q782 := fun z => by rw [z, e783] at f768; cases f768
  have f800 : h784 q210 = some (mh_Ni 24) := by rw [eh785, mh_up_ne n_q210_q782]; exact f768
  have n_q245_q782 : q245 ≠ q782 := fun z => by rw [z, e783] at f769; cases f769
  have f801 : h784 q245 = some (mh_Ni 12) := by rw [eh785, mh_up_ne n_q245_q782]; exact f769
  have n_q282_q782 : q282 ≠ q782 := fun z => by rw [z, e783] at f770; cases f770
  have f802 : h784 q282 = some (mh_Ni 12) := by rw [eh785, mh_up_ne n_q282_q782]; exact f770
  have n_q321_q782 : q321 ≠ q782 := fun z => by rw [z, e783] at f771; cases f771
  have f803 : h784 q321 = some (mh_Ni 2400) := by rw [eh785, mh_up_ne n_q321_q782]; exact f771
  have n_q362_q782 : q362 ≠ q782 := fun z => by rw [z, e783] at f772; cases f772
  have f804 : h784 q362 = some (mh_Ni 12) := by rw [eh785, mh_up_ne n_q362_q782]; exact f772
  have n_q405_q782 : q405 ≠ q782 := fun z => by rw [z, e783] at f773; cases f773
  have f805 : h784 q405 = some (mh_Ni 200) := by rw [eh785, mh_up_ne n_q405_q782]; exact f773
  have n_q450_q782 : q450 ≠ q782 := fun z => by rw [z, e783] at f774; cases f774
  have f806 : h784 q450 = some (mh_Ni 6) := by rw [eh785, mh_up_ne n_q450_q782]; exact f774
  have n_q497_q782 : q497 ≠ q782 := fun z => by rw [z, e783] at f775; cases f775
  have f807 : h784 q497 = some (mh_Ni 6) := by rw [eh785, mh_up_ne n_q497_q782]; exact f775
  have n_q546_q782 : q546 ≠ q782 := fun z => by rw [z, e783] at f776; cases f776
  have f808 : h784 q546 = some (mh_Ni 3902) := by rw [eh785, mh_up_ne n_q546_q782]; exact f776
  have n_q597_q782 : q597 ≠ q782 := fun z => by rw [z, e783] at f777; cases f777
  have f809 : h784 q597 = some (.inl (5, 13, .inr (.inr (.inr (.inr (fun i => if i < 13 then some (a598 i) else none)))))) := by rw [eh785, mh_up_ne n_q597_q782]; exact f777
  have n_a598_q782 : ∀ i, i < 13 → a598 i ≠ q782 := fun i hi z => by have w := f778 i hi; rw [z, e783] at w; cases w
  have f810 : ∀ i, i < 13 → h784 (a598 i) = some (.inl (0, (20001, .inl (fun _ => 0)))) := fun i hi => by rw [eh785, mh_up_ne (n_a598_q782 i hi)]; exact f778 i hi
  have n_q657_q782 : q657 ≠ q782 := fun z => by rw [z, e783] at f779; cases f779
  have f811 : h784 q657 = some (.inl (5, 13, .inr (.inr (.inr (.inr (fun i => if i < 13 then some (a658 i) else none)))))) := by rw [eh785, mh_up_ne n_q657_q782]; exact f779
  have n_a658_q782 : ∀ i, i < 13 → a658 i ≠ q782 := fun i hi z => by have w := f780 i hi; rw [z, e783] at w; cases w
  have f812 : ∀ i, i < 13 → h784 (a658 i) = some (.inl (0, (20001, .inl (fun _ => 0)))) := fun i hi => by rw [eh785, mh_up_ne (n_a658_q782 i hi)]; exact f780 i hi
  have n_q721_q782 : q721 ≠ q782 := fun z => by rw [z, e783] at f781; cases f781
  have f813 : h784 q721 = some (mh_Ni 100301) := by rw [eh785, mh_up_ne n_q721_q782]; exact f781
  have f814 : h784 q782 = some (mh_Nz 301) := by rw [eh785]; exact mh_up_eq _ _ _
  refine mh_putF cx wd hin (ci := 12) (k := 33) (C := RX12) (T := TX12) (N := 38) (ty0 := tyX12) (ty := (.array .boolean)) ob788 rfl (by decide) uw_X12 (mh_in 1249 (by decide +kernel) (by decide +kernel)) tyX12_ok nmX12 rfl rfl (by decide +kernel) rfl rfl (Nat.le_of_ble_eq_true rfl) dX12_init_203 (fun H locs wd => ?_)
  obtain ⟨h815, eh816⟩ : ∃ x, x = mh_up h784 o (.inr (12, [.int 0, .ref q1, .ref q14, .int 0, .int 0, .int 0, .ref q36, .int (-1), .ref q63, .ref q91, .ref q116, .ref q143, .ref q172, .ref q210, .int 0, .int 0, .int 0, .ref q245, .ref q282, .ref q321, .ref q362, .ref q405, .int 0, .int 0, .ref q450, .ref q497, .int 0, .int 0, .int 0, .ref q546, .ref q597, .ref q657, .ref q721, .ref q782, .null, .null, .null, .null])) := ⟨_, rfl⟩
  have wd : mh_W D ks L (mh_A L0 s.heap.size) s.heap h815 H locs := by rw [eh816]; exact wd
  have R817 : mh_Rg h o h815 ((((((((((((((((((((([] ++ [q1]) ++ q14 :: (List.range 21).map a15) ++ [q36]) ++ q63 :: (List.range 13).map a64) ++ [q91]) ++ [q116]) ++ [q143]) ++ q172 :: (List.range 13).map a173) ++ [q210]) ++ [q245]) ++ [q282]) ++ [q321]) ++ [q362]) ++ [q405]) ++ [q450]) ++ [q497]) ++ [q546]) ++ q597 :: (List.range 13).map a598) ++ q657 :: (List.range 13).map a658) ++ [q721]) ++ [q782]) := by rw [eh816]; exact R786.set
  have ob818 : h815 o = some (.inr (12, [.int 0, .ref q1, .ref q14, .int 0, .int 0, .int 0, .ref q36, .int (-1), .ref q63, .ref q91, .ref q116, .ref q143, .ref q172, .ref q210, .int 0, .int 0, .int 0, .ref q245, .ref q282, .ref q321, .ref q362, .ref q405, .int 0, .int 0, .ref q450, .ref q497, .int 0, .int 0, .int 0, .ref q546, .ref q597, .ref q657, .ref q721, .ref q782, .null, .null, .null, .null])) := by rw [eh816]; exact mh_up_eq _ _ _
  have f819 : h815 q1 = some (mh_Ni 304) := by rw [eh816, mh_up_ne n6]; exact f789
  have f820 : h815 q14 = some (.inl (5, 21, .inr (.inr (.inr (.inr (fun i => if i < 21 then some (a15 i) else none)))))) := by rw [eh816, mh_up_ne n22]; exact f790
  have f821 : ∀ i, i < 21 → h815 (a15 i) = some (.inl (0, (304, .inl (fun _ => 0)))) := fun i hi => by rw [eh816, mh_up_ne (n23 i hi)]; exact f791 i hi
  have f822 : h815 q36 = some (mh_Ni 12) := by rw [eh816, mh_up_ne n41]; exact f792
  have f823 : h815 q63 = some (.inl (5, 13, .inr (.inr (.inr (.inr (fun i => if i < 13 then some (a64 i) else none)))))) := by rw [eh816, mh_up_ne n71]; exact f793
  have f824 : ∀ i, i < 13 → h815 (a64 i) = some (.inl (0, (100301, .inl (fun _ => 0)))) := fun i hi => by rw [eh816, mh_up_ne (n72 i hi)]; exact f794 i hi
  have f825 : h815 q91 = some (mh_Nz 200001) := by rw [eh816, mh_up_ne n96]; exact f795
  have f826 : h815 q116 = some (mh_Nz 200001) := by rw [eh816, mh_up_ne n121]; exact f796
  have f827 : h815 q143 = some (mh_Nz 200001) := by rw [eh816, mh_up_ne n148]; exact f797
  have f828 : h815 q172 = some (.inl (6, 13, .inr (.inr (.inr (.inr (fun i => if i < 13 then some (a173 i) else none)))))) := by rw [eh816, mh_up_ne n180]; exact f798
  have f829 : ∀ i, i < 13 → h815 (a173 i) = some (.inl (1, (3001, .inr (.inl (fun _ => 0))))) := fun i hi => by rw [eh816, mh_up_ne (n181 i hi)]; exact f799 i hi
  have f830 : h815 q210 = some (mh_Ni 24) := by rw [eh816, mh_up_ne n215]; exact f800
  have f831 : h815 q245 = some (mh_Ni 12) := by rw [eh816, mh_up_ne n250]; exact f801
  have f832 : h815 q282 = some (mh_Ni 12) := by rw [eh816, mh_up_ne n287]; exact f802
  have f833 : h815 q321 = some (mh_Ni 2400) := by rw [eh816, mh_up_ne n326]; exact f803
  have f834 : h815 q362 = some (mh_Ni 12) := by rw [eh816, mh_up_ne n367]; exact f804
  have f835 : h815 q405 = some (mh_Ni 200) := by rw [eh816, mh_up_ne n410]; exact f805
  have f836 : h815 q450 = some (mh_Ni 6) := by rw [eh816, mh_up_ne n455]; exact f806
  have f837 : h815 q497 = some (mh_Ni 6) := by rw [eh816, mh_up_ne n502]; exact f807
  have f838 : h815 q546 = some (mh_Ni 3902) := by rw [eh816, mh_up_ne n551]; exact f808
  have f839 : h815 q597 = some (.inl (5, 13, .inr (.inr (.inr (.inr (fun i => if i < 13 then some (a598 i) else none)))))) := by rw [eh816, mh_up_ne n605]; exact f809
  have f840 : ∀ i, i < 13 → h815 (a598 i) = some (.inl (0, (20001, .inl (fun _ => 0)))) := fun i hi => by rw [eh816, mh_up_ne (n606 i hi)]; exact f810 i hi
  have f841 : h815 q657 = some (.inl (5, 13, .inr (.inr (.inr (.inr (fun i => if i < 13 then some (a658 i) else none)))))) := by rw [eh816, mh_up_ne n665]; exact f811
  have f842 : ∀ i, i < 13 → h815 (a658 i) = some (.inl (0, (20001, .inl (fun _ => 0)))) := fun i hi => by rw [eh816, mh_up_ne (n666 i hi)]; exact f812 i hi
  have f843 : h815 q721 = some (mh_Ni 100301) := by rw [eh816, mh_up_ne n726]; exact f813
  have f844 : h815 q782 = some (mh_Nz 301) := by rw [eh816, mh_up_ne n787]; exact f814
  refine lv_aload_n hx hb dX12_init_206 rfl (lv_at hl 0 rfl) ?_
  refine lv_bipush (v := 12) hx hb dX12_init_207 (by decide) ?_
  refine mh_nwi (N' := 12) cx wd wo_int (by decide) rfl (by decide) (Nat.le_of_ble_eq_true rfl) (Nat.le_of_ble_eq_true rfl) dX12_init_209 (fun q845 L H e846 wd => ?_)
  obtain ⟨h847, eh848⟩ : ∃ x, x = mh_up h815 q845 (mh_Ni 12) := ⟨_, rfl⟩
  rw [← eh848] at wd
  have R849 : mh_Rg h o h847 (((((((((((((((((((((([] ++ [q1]) ++ q14 :: (List.range 21).map a15) ++ [q36]) ++ q63 :: (List.range 13).map a64) ++ [q91]) ++ [q116]) ++ [q143]) ++ q172 :: (List.range 13).map a173) ++ [q210]) ++ [q245]) ++ [q282]) ++ [q321]) ++ [q362]) ++ [q405]) ++ [q450]) ++ [q497]) ++ [q546]) ++ q597 :: (List.range 13).map a598) ++ q657 :: (List.range 13).map a658) ++ [q721]) ++ [q782]) ++ [q845]) := by rw [eh848]; exact R817.add e846
  have n850 : q845 ≠ o := fun z => by rw [z, ob818] at e846; cases e846
  have ob851 : h847 o = some (.inr (12, [.int 0, .ref q1, .ref q14, .int 0, .int 0, .int 0, .ref q36, .int (-1), .ref q63, .ref q91, .ref q116, .ref q143, .ref q172, .ref q210, .int 0, .int 0, .int 0, .ref q245, .ref q282, .ref q321, .ref q362, .ref q405, .int 0, .int 0, .ref q450, .ref q497, .int 0, .int 0, .int 0, .ref q546, .ref q597, .ref q657, .ref q721, .ref q782, .null, .null, .null, .null])) := by rw [eh848, mh_up_ne (fun z => n850 z.symm)]; exact ob818
  have n_q1_q845 : q1 ≠ q845 := fun z => by rw [z, e846] at f819; cases f819
  have f852 : h847 q1 = some (mh_Ni 304) := by rw [eh848, mh_up_ne n_q1_q845]; exact f819
  have n_q14_q845 : q14 ≠ q845 := fun z => by rw [z, e846] at f820; cases f820
  have f853 : h847 q14 = some (.inl (5, 21, .inr (.inr (.inr (.inr (fun i => if i < 21 then some (a15 i) else none)))))) := by rw [eh848, mh_up_ne n_q14_q845]; exact f820
  have n_a15_q845 : ∀ i, i < 21 → a15 i ≠ q845 := fun i hi z => by have w := f821 i hi; rw [z, e846] at w; cases w
  have f854 : ∀ i, i < 21 → h847 (a15 i) = some (.inl (0, (304, .inl (fun _ => 0)))) := fun i hi => by rw [eh848, mh_up_ne (n_a15_q845 i hi)]; exact f821 i hi
  have n_q36_q845 : q36 ≠ q845 := fun z => by rw [z, e846] at f822; cases f822
  have f855 : h847 q36 = some (mh_Ni 12) := by rw [eh848, mh_up_ne n_q36_q845]; exact f822
  have n_q63_q845 : q63 ≠ q845 := fun z => by rw [z, e846] at f823; cases f823
  have f856 : h847 q63 = some (.inl (5, 13, .inr (.inr (.inr (.inr (fun i => if i < 13 then some (a64 i) else none)))))) := by rw [eh848, mh_up_ne n_q63_q845]; exact f823
  have n_a64_q845 : ∀ i, i < 13 → a64 i ≠ q845 := fun i hi z => by have w := f824 i hi; rw [z, e846] at w; cases w
  have f857 : ∀ i, i < 13 → h847 (a64 i) = some (.inl (0, (100301, .inl (fun _ => 0)))) := fun i hi => by rw [eh848, mh_up_ne (n_a64_q845 i hi)]; exact f824 i hi
  have n_q91_q845 : q91 ≠ q845 := fun z => by rw [z, e846] at f825; cases f825
  have f858 : h847 q91 = some (mh_Nz 200001) := by rw [eh848, mh_up_ne n_q91_q845]; exact f825
  have n_q116_q845 : q116 ≠ q845 := fun z => by rw [z, e846] at f826; cases f826
  have f859 : h847 q116 = some (mh_Nz 200001) := by rw [eh848, mh_up_ne n_q116_q845]; exact f826
  have n_q143_q845 : q143 ≠ q845 := fun z => by rw [z, e846] at f827; cases f827
  have f860 : h847 q143 = some (mh_Nz 200001) := by rw [eh848, mh_up_ne n_q143_q845]; exact f827
  have n_q172_q845 : q172 ≠ q845 := fun z => by rw [z, e846] at f828; cases f828
  have f861 : h847 q172 = some (.inl (6, 13, .inr (.inr (.inr (.inr (fun i => if i < 13 then some (a173 i) else none)))))) := by rw [eh848, mh_up_ne n_q172_q845]; exact f828
  have n_a173_q845 : ∀ i, i < 13 → a173 i ≠ q845 := fun i hi z => by have w := f829 i hi; rw [z, e846] at w; cases w
  have f862 : ∀ i, i < 13 → h847 (a173 i) = some (.inl (1, (3001, .inr (.inl (fun _ => 0))))) := fun i hi => by rw [eh848, mh_up_ne (n_a173_q845 i hi)]; exact f829 i hi
  have n_q210_q845 : q210 ≠ q845 := fun z => by rw [z, e846] at f830; cases f830
  have f863 : h847 q210 = some (mh_Ni 24) := by rw [eh848, mh_up_ne n_q210_q845]; exact f830
  have n_q245_q845 : q245 ≠ q845 := fun z => by rw [z, e846] at f831; cases f831
  have f864 : h847 q245 = some (mh_Ni 12) := by rw [eh848, mh_up_ne n_q245_q845]; exact f831
  have n_q282_q845 : q282 ≠ q845 := fun z => by rw [z, e846] at f832; cases f832
  have f865 : h847 q282 = some (mh_Ni 12) := by rw [eh848, mh_up_ne n_q282_q845]; exact f832
  have n_q321_q845 : q321 ≠ q845 := fun z => by rw [z, e846] at f833; cases f833
  have f866 : h847 q321 = some (mh_Ni 2400) := by rw [eh848, mh_up_ne n_q321_q845]; exact f833
  have n_q362_q845 : q362 ≠ q845 := fun z => by rw [z, e846] at f834; cases f834
  have f867 : h847 q362 = some (mh_Ni 12) := by rw [eh848, mh_up_ne n_q362_q845]; exact f834
  have n_q405_q845 : q405 ≠ q845 := fun z => by rw [z, e846] at f835; cases f835
  have f868 : h847 q405 = some (mh_Ni 200) := by rw [eh848, mh_up_ne n_q405_q845]; exact f835
  have n_q450_q845 : q450 ≠ q845 := fun z => by rw [z, e846] at f836; cases f836
  have f869 : h847 q450 = some (mh_Ni 6) := by rw [eh848, mh_up_ne n_q450_q845]; exact f836
  have n_q497_q845 : q497 ≠ q845 := fun z => by rw [z, e846] at f837; cases f837
  have f870 : h847 q497 = some (mh_Ni 6) := by rw [eh848, mh_up_ne n_q497_q845]; exact f837
  have n_q546_q845 : q546 ≠ q845 := fun z => by rw [z, e846] at f838; cases f838
  have f871 : h847 q546 = some (mh_Ni 3902) := by rw [eh848, mh_up_ne n_q546_q845]; exact f838
  have n_q597_q845 : q597 ≠ q845 := fun z => by rw [z, e846] at f839; cases f839
  have f872 : h847 q597 = some (.inl (5, 13, .inr (.inr (.inr (.inr (fun i => if i < 13 then some (a598 i) else none)))))) := by rw [eh848, mh_up_ne n_q597_q845]; exact f839
  have n_a598_q845 : ∀ i, i < 13 → a598 i ≠ q845 := fun i hi z => by have w := f840 i hi; rw [z, e846] at w; cases w
  have f873 : ∀ i, i < 13 → h847 (a598 i) = some (.inl (0, (20001, .inl (fun _ => 0)))) := fun i hi => by rw [eh848, mh_up_ne (n_a598_q845 i hi)]; exact f840 i hi
  have n_q657_q845 : q657 ≠ q845 := fun z => by rw [z, e846] at f841; cases f841
  have f874 : h847 q657 = some (.inl (5, 13, .inr (.inr (.inr (.inr (fun i => if i < 13 then some (a658 i) else none)))))) := by rw [eh848, mh_up_ne n_q657_q845]; exact f841
  have n_a658_q845 : ∀ i, i < 13 → a658 i ≠ q845 := fun i hi z => by have w := f842 i hi; rw [z, e846] at w; cases w
  have f875 : ∀ i, i < 13 → h847 (a658 i) = some (.inl (0, (20001, .inl (fun _ => 0)))) := fun i hi => by rw [eh848, mh_up_ne (n_a658_q845 i hi)]; exact f842 i hi
  have n_q721_q845 : q721 ≠ q845 := fun z => by rw [z, e846] at f843; cases f843
  have f876 : h847 q721 = some (mh_Ni 100301) := by rw [eh848, mh_up_ne n_q721_q845]; exact f843
  have n_q782_q845 : q782 ≠ q845 := fun z => by rw [z, e846] at f844; cases f844
  have f877 : h847 q782 = some (mh_Nz 301) := by rw [eh848, mh_up_ne n_q782_q845]; exact f844
  have f878 : h847 q845 = some (mh_Ni 12) := by rw [eh848]; exact mh_up_eq _ _ _
  refine mh_putF cx wd hin (ci := 12) (k := 34) (C := RX12) (T := TX12) (N := 38) (ty0 := tyX12) (ty := (.array .int)) ob851 rfl (by decide) uw_X12 (mh_in 1250 (by decide +kernel) (by decide +kernel)) tyX12_ok nmX12 rfl rfl (by decide +kernel) rfl rfl (Nat.le_of_ble_eq_true rfl) dX12_init_211 (fun H locs wd => ?_)
  obtain ⟨h879, eh880⟩ : ∃ x, x = mh_up h847 o (.inr (12, [.int 0, .ref q1, .ref q14, .int 0, .int 0, .int 0, .ref q36, .int (-1), .ref q63, .ref q91, .ref q116, .ref q143, .ref q172, .ref q210, .int 0, .int 0, .int 0, .ref q245, .ref q282, .ref q321, .ref q362, .ref q405, .int 0, .int 0, .ref q450, .ref q497, .int 0, .int 0, .int 0, .ref q546, .ref q597, .ref q657, .ref q721, .ref q782, .ref q845, .null, .null, .null])) := ⟨_, rfl⟩
  have wd : mh_W D ks L (mh_A L0 s.heap.size) s.heap h879 H locs := by rw [eh880]; exact wd
  have R881 : mh_Rg h o h879 (((((((((((((((((((((([] ++ [q1]) ++ q14 :: (List.range 21).map a15) ++ [q36]) ++ q63 :: (List.range 13).map a64) ++ [q91]) ++ [q116]) ++ [q143]) ++ q172 :: (List.range 13).map a173) ++ [q210]) ++ [q245]) ++ [q282]) ++ [q321]) ++ [q362]) ++ [q405]) ++ [q450]) ++ [q497]) ++ [q546]) ++ q597 :: (List.range 13).map a598) ++ q657 :: (List.range 13).map a658) ++ [q721]) ++ [q782]) ++ [q845]) := by rw [eh880]; exact R849.set
  have ob882 : h879 o = some (.inr (12, [.int 0, .ref q1, .ref q14, .int 0, .int 0, .int 0, .ref q36, .int (-1), .ref q63, .ref q91, .ref q116, .ref q143, .ref q172, .ref q210, .int 0, .int 0, .int 0, .ref q245, .ref q282, .ref q321, .ref q362, .ref q405, .int 0, .int 0, .ref q450, .ref q497, .int 0, .int 0, .int 0, .ref q546, .ref q597, .ref q657, .ref q721, .ref q782, .ref q845, .null, .null, .null])) := by rw [eh880]; exact mh_up_eq _ _ _
  have f883 : h879 q1 = some (mh_Ni 304) := by rw [eh880, mh_up_ne n6]; exact f852
  have f884 : h879 q14 = some (.inl (5, 21, .inr (.inr (.inr (.inr (fun i => if i < 21 then some (a15 i) else none)))))) := by rw [eh880, mh_up_ne n22]; exact f853
  have f885 : ∀ i, i < 21 → h879 (a15 i) = some (.inl (0, (304, .inl (fun _ => 0)))) := fun i hi => by rw [eh880, mh_up_ne (n23 i hi)]; exact f854 i hi
  have f886 : h879 q36 = some (mh_Ni 12) := by rw [eh880, mh_up_ne n41]; exact f855
  have f887 : h879 q63 = some (.inl (5, 13, .inr (.inr (.inr (.inr (fun i => if i < 13 then some (a64 i) else none)))))) := by rw [eh880, mh_up_ne n71]; exact f856
  have f888 : ∀ i, i < 13 → h879 (a64 i) = some (.inl (0, (100301, .inl (fun _ => 0)))) := fun i hi => by rw [eh880, mh_up_ne (n72 i hi)]; exact f857 i hi
  have f889 : h879 q91 = some (mh_Nz 200001) := by rw [eh880, mh_up_ne n96]; exact f858
  have f890 : h879 q116 = some (mh_Nz 200001) := by rw [eh880, mh_up_ne n121]; exact f859
  have f891 : h879 q143 = some (mh_Nz 200001) := by rw [eh880, mh_up_ne n148]; exact f860
  have f892 : h879 q172 = some (.inl (6, 13, .inr (.inr (.inr (.inr (fun i => if i < 13 then some (a173 i) else none)))))) := by rw [eh880, mh_up_ne n180]; exact f861
  have f893 : ∀ i, i < 13 → h879 (a173 i) = some (.inl (1, (3001, .inr (.inl (fun _ => 0))))) := fun i hi => by rw [eh880, mh_up_ne (n181 i hi)]; exact f862 i hi
  have f894 : h879 q210 = some (mh_Ni 24) := by rw [eh880, mh_up_ne n215]; exact f863
  have f895 : h879 q245 = some (mh_Ni 12) := by rw [eh880, mh_up_ne n250]; exact f864
  have f896 : h879 q282 = some (mh_Ni 12) := by rw [eh880, mh_up_ne n287]; exact f865
  have f897 : h879 q321 = some (mh_Ni 2400) := by rw [eh880, mh_up_ne n326]; exact f866
  have f898 : h879 q362 = some (mh_Ni 12) := by rw [eh880, mh_up_ne n367]; exact f867
  have f899 : h879 q405 = some (mh_Ni 200) := by rw [eh880, mh_up_ne n410]; exact f868
  have f900 : h879 q450 = some (mh_Ni 6) := by rw [eh880, mh_up_ne n455]; exact f869
  have f901 : h879 q497 = some (mh_Ni 6) := by rw [eh880, mh_up_ne n502]; exact f870
  have f902 : h879 q546 = some (mh_Ni 3902) := by rw [eh880, mh_up_ne n551]; exact f871
  have f903 : h879 q597 = some (.inl (5, 13, .inr (.inr (.inr (.inr (fun i => if i < 13 then some (a598 i) else none)))))) := by rw [eh880, mh_up_ne n605]; exact f872
  have f904 : ∀ i, i < 13 → h879 (a598 i) = some (.inl (0, (20001, .inl (fun _ => 0)))) := fun i hi => by rw [eh880, mh_up_ne (n606 i hi)]; exact f873 i hi
  have f905 : h879 q657 = some (.inl (5, 13, .inr (.inr (.inr (.inr (fun i => if i < 13 then some (a658 i) else none)))))) := by rw [eh880, mh_up_ne n665]; exact f874
  have f906 : ∀ i, i < 13 → h879 (a658 i) = some (.inl (0, (20001, .inl (fun _ => 0)))) := fun i hi => by rw [eh880, mh_up_ne (n666 i hi)]; exact f875 i hi
  have f907 : h879 q721 = some (mh_Ni 100301) := by rw [eh880, mh_up_ne n726]; exact f876
  have f908 : h879 q782 = some (mh_Nz 301) := by rw [eh880, mh_up_ne n787]; exact f877
  have f909 : h879 q845 = some (mh_Ni 12) := by rw [eh880, mh_up_ne n850]; exact f878
  refine lv_aload_n hx hb dX12_init_214 rfl (lv_at hl 0 rfl) ?_
  refine lv_bipush (v := 12) hx hb dX12_init_215 (by decide) ?_
  refine mh_nwi (N' := 12) cx wd wo_int (by decide) rfl (by decide) (Nat.le_of_ble_eq_true rfl) (Nat.le_of_ble_eq_true rfl) dX12_init_217 (fun q910 L H e911 wd => ?_)
  obtain ⟨h912, eh913⟩ : ∃ x, x = mh_up h879 q910 (mh_Ni 12) := ⟨_, rfl⟩
  rw [← eh913] at wd
  have R914 : mh_Rg h o h912 ((((((((((((((((((((((([] ++ [q1]) ++ q14 :: (List.range 21).map a15) ++ [q36]) ++ q63 :: (List.range 13).map a64) ++ [q91]) ++ [q116]) ++ [q143]) ++ q172 :: (List.range 13).map a173) ++ [q210]) ++ [q245]) ++ [q282]) ++ [q321]) ++ [q362]) ++ [q405]) ++ [q450]) ++ [q497]) ++ [q546]) ++ q597 :: (List.range 13).map a598) ++ q657 :: (List.range 13).map a658) ++ [q721]) ++ [q782]) ++ [q845]) ++ [q910]) := by rw [eh913]; exact R881.add e911
  have n915 : q910 ≠ o := fun z => by rw [z, ob882] at e911; cases e911
  have ob916 : h912 o = some (.inr (12, [.int 0, .ref q1, .ref q14, .int 0, .int 0, .int 0, .ref q36, .int (-1), .ref q63, .ref q91, .ref q116, .ref q143, .ref q172, .ref q210, .int 0, .int 0, .int 0, .ref q245, .ref q282, .ref q321, .ref q362, .ref q405, .int 0, .int 0, .ref q450, .ref q497, .int 0, .int 0, .int 0, .ref q546, .ref q597, .ref q657, .ref q721, .ref q782, .ref q845, .null, .null, .null])) := by rw [eh913, mh_up_ne (fun z => n915 z.symm)]; exact ob882
  have n_q1_q910 : q1 ≠ q910 := fun z => by rw [z, e911] at f883; cases f883
  have f917 : h912 q1 = some (mh_Ni 304) := by rw [eh913, mh_up_ne n_q1_q910]; exact f883
  have n_q14_q910 : q14 ≠ q910 := fun z => by rw [z, e911] at f884; cases f884
  have f918 : h912 q14 = some (.inl (5, 21, .inr (.inr (.inr (.inr (fun i => if i < 21 then some (a15 i) else none)))))) := by rw [eh913, mh_up_ne n_q14_q910]; exact f884
  have n_a15_q910 : ∀ i, i < 21 → a15 i ≠ q910 := fun i hi z => by have w := f885 i hi; rw [z, e911] at w; cases w
  have f919 : ∀ i, i < 21 → h912 (a15 i) = some (.inl (0, (304, .inl (fun _ => 0)))) := fun i hi => by rw [eh913, mh_up_ne (n_a15_q910 i hi)]; exact f885 i hi
  have n_q36_q910 : q36 ≠ q910 := fun z => by rw [z, e911] at f886; cases f886
  have f920 : h912 q36 = some (mh_Ni 12) := by rw [eh913, mh_up_ne n_q36_q910]; exact f886
  have n_q63_q910 : q63 ≠ q910 := fun z => by rw [z, e911] at f887; cases f887
  have f921 : h912 q63 = some (.inl (5, 13, .inr (.inr (.inr (.inr (fun i => if i < 13 then some (a64 i) else none)))))) := by rw [eh913, mh_up_ne n_q63_q910]; exact f887
  have n_a64_q910 : ∀ i, i < 13 → a64 i ≠ q910 := fun i hi z => by have w := f888 i hi; rw [z, e911] at w; cases w
  have f922 : ∀ i, i < 13 → h912 (a64 i) = some (.inl (0, (100301, .inl (fun _ => 0)))) := fun i hi => by rw [eh913, mh_up_ne (n_a64_q910 i hi)]; exact f888 i hi
  have n_q91_q910 : q91 ≠ q910 := fun z => by rw [z, e911] at f889; cases f889
  have f923 : h912 q91 = some (mh_Nz 200001) := by rw [eh913, mh_up_ne n_q91_q910]; exact f889
  have n_q116_q910 : q116 ≠ q910 := fun z => by rw [z, e911] at f890; cases f890
  have f924 : h912 q116 = some (mh_Nz 200001) := by rw [eh913, mh_up_ne n_q116_q910]; exact f890
  have n_q143_q910 : q143 ≠ q910 := fun z => by rw [z, e911] at f891; cases f891
  have f925 : h912 q143 = some (mh_Nz 200001) := by rw [eh913, mh_up_ne n_q143_q910]; exact f891
  have n_q172_q910 : q172 ≠ q910 := fun z => by rw [z, e911] at f892; cases f892
  have f926 : h912 q172 = some (.inl (6, 13, .inr (.inr (.inr (.inr (fun i => if i < 13 then some (a173 i) else none)))))) := by rw [eh913, mh_up_ne n_q172_q910]; exact f892
  have n_a173_q910 : ∀ i, i < 13 → a173 i ≠ q910 := fun i hi z => by have w := f893 i hi; rw [z, e911] at w; cases w
  have f927 : ∀ i, i < 13 → h912 (a173 i) = some (.inl (1, (3001, .inr (.inl (fun _ => 0))))) := fun i hi => by rw [eh913, mh_up_ne (n_a173_q910 i hi)]; exact f893 i hi
  have n_q210_q910 : q210 ≠ q910 := fun z => by rw [z, e911] at f894; cases f894
  have f928 : h912 q210 = some (mh_Ni 24) := by rw [eh913, mh_up_ne n_q210_q910]; exact f894
  have n_q245_q910 : q245 ≠ q910 := fun z => by rw [z, e911] at f895; cases f895
  have f929 : h912 q245 = some (mh_Ni 12) := by rw [eh913, mh_up_ne n_q245_q910]; exact f895
  have n_q282_q910 : q282 ≠ q910 := fun z => by rw [z, e911] at f896; cases f896
  have f930 : h912 q282 = some (mh_Ni 12) := by rw [eh913, mh_up_ne n_q282_q910]; exact f896
  have n_q321_q910 : q321 ≠ q910 := fun z => by rw [z, e911] at f897; cases f897
  have f931 : h912 q321 = some (mh_Ni 2400) := by rw [eh913, mh_up_ne n_q321_q910]; exact f897
  have n_q362_q910 : q362 ≠ q910 := fun z => by rw [z, e911] at f898; cases f898
  have f932 : h912 q362 = some (mh_Ni 12) := by rw [eh913, mh_up_ne n_q362_q910]; exact f898
  have n_q405_q910 : q405 ≠ q910 := fun z => by rw [z, e911] at f899; cases f899
  have f933 : h912 q405 = some (mh_Ni 200) := by rw [eh913, mh_up_ne n_q405_q910]; exact f899
  have n_q450_q910 : q450 ≠ q910 := fun z => by rw [z, e911] at f900; cases f900
  have f934 : h912 q450 = some (mh_Ni 6) := by rw [eh913, mh_up_ne n_q450_q910]; exact f900
  have n_q497_q910 : q497 ≠ q910 := fun z => by rw [z, e911] at f901; cases f901
  have f935 : h912 q497 = some (mh_Ni 6) := by rw [eh913, mh_up_ne n_q497_q910]; exact f901
  have n_q546_q910 : q546 ≠ q910 := fun z => by rw [z, e911] at f902; cases f902
  have f936 : h912 q546 = some (mh_Ni 3902) := by rw [eh913, mh_up_ne n_q546_q910]; exact f902
  have n_q597_q910 : q597 ≠ q910 := fun z => by rw [z, e911] at f903; cases f903
  have f937 : h912 q597 = some (.inl (5, 13, .inr (.inr (.inr (.inr (fun i => if i < 13 then some (a598 i) else none)))))) := by rw [eh913, mh_up_ne n_q597_q910]; exact f903
  have n_a598_q910 : ∀ i, i < 13 → a598 i ≠ q910 := fun i hi z => by have w := f904 i hi; rw [z, e911] at w; cases w
  have f938 : ∀ i, i < 13 → h912 (a598 i) = some (.inl (0, (20001, .inl (fun _ => 0)))) := fun i hi => by rw [eh913, mh_up_ne (n_a598_q910 i hi)]; exact f904 i hi
  have n_q657_q910 : q657 ≠ q910 := fun z => by rw [z, e911] at f905; cases f905
  have f939 : h912 q657 = some (.inl (5, 13, .inr (.inr (.inr (.inr (fun i => if i < 13 then some (a658 i) else none)))))) := by rw [eh913, mh_up_ne n_q657_q910]; exact f905
  have n_a658_q910 : ∀ i, i < 13 → a658 i ≠ q910 := fun i hi z => by have w := f906 i hi; rw [z, e911] at w; cases w
  have f940 : ∀ i, i < 13 → h912 (a658 i) = some (.inl (0, (20001, .inl (fun _ => 0)))) := fun i hi => by rw [eh913, mh_up_ne (n_a658_q910 i hi)]; exact f906 i hi
  have n_q721_q910 : q721 ≠ q910 := fun z => by rw [z, e911] at f907; cases f907
  have f941 : h912 q721 = some (mh_Ni 100301) := by rw [eh913, mh_up_ne n_q721_q910]; exact f907
  have n_q782_q910 : q782 ≠ q910 := fun z => by rw [z, e911] at f908; cases f908
  have f942 : h912 q782 = some (mh_Nz 301) := by rw [eh913, mh_up_ne n_q782_q910]; exact f908
  have n_q845_q910 : q845 ≠ q910 := fun z => by rw [z, e911] at f909; cases f909
  have f943 : h912 q845 = some (mh_Ni 12) := by rw [eh913, mh_up_ne n_q845_q910]; exact f909
  have f944 : h912 q910 = some (mh_Ni 12) := by rw [eh913]; exact mh_up_eq _ _ _
  refine mh_putF cx wd hin (ci := 12) (k := 35) (C := RX12) (T := TX12) (N := 38) (ty0 := tyX12) (ty := (.array .int)) ob916 rfl (by decide) uw_X12 (mh_in 1251 (by decide +kernel) (by decide +kernel)) tyX12_ok nmX12 rfl rfl (by decide +kernel) rfl rfl (Nat.le_of_ble_eq_true rfl) dX12_init_219 (fun H locs wd => ?_)
  obtain ⟨h945, eh946⟩ : ∃ x, x = mh_up h912 o (.inr (12, [.int 0, .ref q1, .ref q14, .int 0, .int 0, .int 0, .ref q36, .int (-1), .ref q63, .ref q91, .ref q116, .ref q143, .ref q172, .ref q210, .int 0, .int 0, .int 0, .ref q245, .ref q282, .ref q321, .ref q362, .ref q405, .int 0, .int 0, .ref q450, .ref q497, .int 0, .int 0, .int 0, .ref q546, .ref q597, .ref q657, .ref q721, .ref q782, .ref q845, .ref q910, .null, .null])) := ⟨_, rfl⟩
  have wd : mh_W D ks L (mh_A L0 s.heap.size) s.heap h945 H locs := by rw [eh946]; exact wd
  have R947 : mh_Rg h o h945 ((((((((((((((((((((((([] ++ [q1]) ++ q14 :: (List.range 21).map a15) ++ [q36]) ++ q63 :: (List.range 13).map a64) ++ [q91]) ++ [q116]) ++ [q143]) ++ q172 :: (List.range 13).map a173) ++ [q210]) ++ [q245]) ++ [q282]) ++ [q321]) ++ [q362]) ++ [q405]) ++ [q450]) ++ [q497]) ++ [q546]) ++ q597 :: (List.range 13).map a598) ++ q657 :: (List.range 13).map a658) ++ [q721]) ++ [q782]) ++ [q845]) ++ [q910]) := by rw [eh946]; exact R914.set
  have ob948 : h945 o = some (.inr (12, [.int 0, .ref q1, .ref q14, .int 0, .int 0, .int 0, .ref q36, .int (-1), .ref q63, .ref q91, .ref q116, .ref q143, .ref q172, .ref q210, .int 0, .int 0, .int 0, .ref q245, .ref q282, .ref q321, .ref q362, .ref q405, .int 0, .int 0, .ref q450, .ref q497, .int 0, .int 0, .int 0, .ref q546, .ref q597, .ref q657, .ref q721, .ref q782, .ref q845, .ref q910, .null, .null])) := by rw [eh946]; exact mh_up_eq _ _ _
  have f949 : h945 q1 = some (mh_Ni 304) := by rw [eh946, mh_up_ne n6]; exact f917
  have f950 : h945 q14 = some (.inl (5, 21, .inr (.inr (.inr (.inr (fun i => if i < 21 then some (a15 i) else none)))))) := by rw [eh946, mh_up_ne n22]; exact f918
  have f951 : ∀ i, i < 21 → h945 (a15 i) = some (.inl (0, (304, .inl (fun _ => 0)))) := fun i hi => by rw [eh946, mh_up_ne (n23 i hi)]; exact f919 i hi
  have f952 : h945 q36 = some (mh_Ni 12) := by rw [eh946, mh_up_ne n41]; exact f920
  have f953 : h945 q63 = some (.inl (5, 13, .inr (.inr (.inr (.inr (fun i => if i < 13 then some (a64 i) else none)))))) := by rw [eh946, mh_up_ne n71]; exact f921
  have f954 : ∀ i, i < 13 → h945 (a64 i) = some (.inl (0, (100301, .inl (fun _ => 0)))) := fun i hi => by rw [eh946, mh_up_ne (n72 i hi)]; exact f922 i hi
  have f955 : h945 q91 = some (mh_Nz 200001) := by rw [eh946, mh_up_ne n96]; exact f923
  have f956 : h945 q116 = some (mh_Nz 200001) := by rw [eh946, mh_up_ne n121]; exact f924
  have f957 : h945 q143 = some (mh_Nz 200001) := by rw [eh946, mh_up_ne n148]; exact f925
  have f958 : h945 q172 = some (.inl (6, 13, .inr (.inr (.inr (.inr (fun i => if i < 13 then some (a173 i) else none)))))) := by rw [eh946, mh_up_ne n180]; exact f926
  have f959 : ∀ i, i < 13 → h945 (a173 i) = some (.inl (1, (3001, .inr (.inl (fun _ => 0))))) := fun i hi => by rw [eh946, mh_up_ne (n181 i hi)]; exact f927 i hi
  have f960 : h945 q210 = some (mh_Ni 24) := by rw [eh946, mh_up_ne n215]; exact f928
  have f961 : h945 q245 = some (mh_Ni 12) := by rw [eh946, mh_up_ne n250]; exact f929
  have f962 : h945 q282 = some (mh_Ni 12) := by rw [eh946, mh_up_ne n287]; exact f930
  have f963 : h945 q321 = some (mh_Ni 2400) := by rw [eh946, mh_up_ne n326]; exact f931
  have f964 : h945 q362 = some (mh_Ni 12) := by rw [eh946, mh_up_ne n367]; exact f932
  have f965 : h945 q405 = some (mh_Ni 200) := by rw [eh946, mh_up_ne n410]; exact f933
  have f966 : h945 q450 = some (mh_Ni 6) := by rw [eh946, mh_up_ne n455]; exact f934
  have f967 : h945 q497 = some (mh_Ni 6) := by rw [eh946, mh_up_ne n502]; exact f935
  have f968 : h945 q546 = some (mh_Ni 3902) := by rw [eh946, mh_up_ne n551]; exact f936
  have f969 : h945 q597 = some (.inl (5, 13, .inr (.inr (.inr (.inr (fun i => if i < 13 then some (a598 i) else none)))))) := by rw [eh946, mh_up_ne n605]; exact f937
  have f970 : ∀ i, i < 13 → h945 (a598 i) = some (.inl (0, (20001, .inl (fun _ => 0)))) := fun i hi => by rw [eh946, mh_up_ne (n606 i hi)]; exact f938 i hi
  have f971 : h945 q657 = some (.inl (5, 13, .inr (.inr (.inr (.inr (fun i => if i < 13 then some (a658 i) else none)))))) := by rw [eh946, mh_up_ne n665]; exact f939
  have f972 : ∀ i, i < 13 → h945 (a658 i) = some (.inl (0, (20001, .inl (fun _ => 0)))) := fun i hi => by rw [eh946, mh_up_ne (n666 i hi)]; exact f940 i hi
  have f973 : h945 q721 = some (mh_Ni 100301) := by rw [eh946, mh_up_ne n726]; exact f941
  have f974 : h945 q782 = some (mh_Nz 301) := by rw [eh946, mh_up_ne n787]; exact f942
  have f975 : h945 q845 = some (mh_Ni 12) := by rw [eh946, mh_up_ne n850]; exact f943
  have f976 : h945 q910 = some (mh_Ni 12) := by rw [eh946, mh_up_ne n915]; exact f944
  refine lv_aload_n hx hb dX12_init_222 rfl (lv_at hl 0 rfl) ?_
  refine lv_bipush (v := 12) hx hb dX12_init_223 (by decide) ?_
  refine mh_nwi (N' := 12) cx wd wo_int (by decide) rfl (by decide) (Nat.le_of_ble_eq_true rfl) (Nat.le_of_ble_eq_true rfl) dX12_init_225 (fun q977 L H e978 wd => ?_)
  obtain ⟨h979, eh980⟩ : ∃ x, x = mh_up h945 q977 (mh_Ni 12) := ⟨_, rfl⟩
  rw [← eh980] at wd
  have R981 : mh_Rg h o h979 (((((((((((((((((((((((([] ++ [q1]) ++ q14 :: (List.range 21).map a15) ++ [q36]) ++ q63 :: (List.range 13).map a64) ++ [q91]) ++ [q116]) ++ [q143]) ++ q172 :: (List.range 13).map a173) ++ [q210]) ++ [q245]) ++ [q282]) ++ [q321]) ++ [q362]) ++ [q405]) ++ [q450]) ++ [q497]) ++ [q546]) ++ q597 :: (List.range 13).map a598) ++ q657 :: (List.range 13).map a658) ++ [q721]) ++ [q782]) ++ [q845]) ++ [q910]) ++ [q977]) := by rw [eh980]; exact R947.add e978
  have n982 : q977 ≠ o := fun z => by rw [z, ob948] at e978; cases e978
  have ob983 : h979 o = some (.inr (12, [.int 0, .ref q1, .ref q14, .int 0, .int 0, .int 0, .ref q36, .int (-1), .ref q63, .ref q91, .ref q116, .ref q143, .ref q172, .ref q210, .int 0, .int 0, .int 0, .ref q245, .ref q282, .ref q321, .ref q362, .ref q405, .int 0, .int 0, .ref q450, .ref q497, .int 0, .int 0, .int 0, .ref q546, .ref q597, .ref q657, .ref q721, .ref q782, .ref q845, .ref q910, .null, .null])) := by rw [eh980, mh_up_ne (fun z => n982 z.symm)]; exact ob948
  have n_q1_q977 : q1 ≠ q977 := fun z => by rw [z, e978] at f949; cases f949
  have f984 : h979 q1 = some (mh_Ni 304) := by rw [eh980, mh_up_ne n_q1_q977]; exact f949
  have n_q14_q977 : q14 ≠ q977 := fun z => by rw [z, e978] at f950; cases f950
  have f985 : h979 q14 = some (.inl (5, 21, .inr (.inr (.inr (.inr (fun i => if i < 21 then some (a15 i) else none)))))) := by rw [eh980, mh_up_ne n_q14_q977]; exact f950
  have n_a15_q977 : ∀ i, i < 21 → a15 i ≠ q977 := fun i hi z => by have w := f951 i hi; rw [z, e978] at w; cases w
  have f986 : ∀ i, i < 21 → h979 (a15 i) = some (.inl (0, (304, .inl (fun _ => 0)))) := fun i hi => by rw [eh980, mh_up_ne (n_a15_q977 i hi)]; exact f951 i hi
  have n_q36_q977 : q36 ≠ q977 := fun z => by rw [z, e978] at f952; cases f952
  have f987 : h979 q36 = some (mh_Ni 12) := by rw [eh980, mh_up_ne n_q36_q977]; exact f952
  have n_q63_q977 : q63 ≠ q977 := fun z => by rw [z, e978] at f953; cases f953
  have f988 : h979 q63 = some (.inl (5, 13, .inr (.inr (.inr (.inr (fun i => if i < 13 then some (a64 i) else none)))))) := by rw [eh980, mh_up_ne n_q63_q977]; exact f953
  have n_a64_q977 : ∀ i, i < 13 → a64 i ≠ q977 := fun i hi z => by have w := f954 i hi; rw [z, e978] at w; cases w
  have f989 : ∀ i, i < 13 → h979 (a64 i) = some (.inl (0, (100301, .inl (fun _ => 0)))) := fun i hi => by rw [eh980, mh_up_ne (n_a64_q977 i hi)]; exact f954 i hi
  have n_q91_q977 : q91 ≠ q977 := fun z => by rw [z, e978] at f955; cases f955
  have f990 : h979 q91 = some (mh_Nz 200001) := by rw [eh980, mh_up_ne n_q91_q977]; exact f955
  have n_q116_q977 : q116 ≠ q977 := fun z => by rw [z, e978] at f956; cases f956
  have f991 : h979 q116 = some (mh_Nz 200001) := by rw [eh980, mh_up_ne n_q116_q977]; exact f956
  have n_q143_q977 : q143 ≠ q977 := fun z => by rw [z, e978] at f957; cases f957
  have f992 : h979 q143 = some (mh_Nz 200001) := by rw [eh980, mh_up_ne n_q143_q977]; exact f957
  have n_q172_q977 : q172 ≠ q977 := fun z => by rw [z, e978] at f958; cases f958
  have f993 : h979 q172 = some (.inl (6, 13, .inr (.inr (.inr (.inr (fun i => if i < 13 then some (a173 i) else none)))))) := by rw [eh980, mh_up_ne n_q172_q977]; exact f958
  have n_a173_q977 : ∀ i, i < 13 → a173 i ≠ q977 := fun i hi z => by have w := f959 i hi; rw [z, e978] at w; cases w
  have f994 : ∀ i, i < 13 → h979 (a173 i) = some (.inl (1, (3001, .inr (.inl (fun _ => 0))))) := fun i hi => by rw [eh980, mh_up_ne (n_a173_q977 i hi)]; exact f959 i hi
  have n_q210_q977 : q210 ≠ q977 := fun z => by rw [z, e978] at f960; cases f960
  have f995 : h979 q210 = some (mh_Ni 24) := by rw [eh980, mh_up_ne n_q210_q977]; exact f960
  have n_q245_q977 : q245 ≠ q977 := fun z => by rw [z, e978] at f961; cases f961
  have f996 : h979 q245 = some (mh_Ni 12) := by rw [eh980, mh_up_ne n_q245_q977]; exact f961
  have n_q282_q977 : q282 ≠ q977 := fun z => by rw [z, e978] at f962; cases f962
  have f997 : h979 q282 = some (mh_Ni 12) := by rw [eh980, mh_up_ne n_q282_q977]; exact f962
  have n_q321_q977 : q321 ≠ q977 := fun z => by rw [z, e978] at f963; cases f963
  have f998 : h979 q321 = some (mh_Ni 2400) := by rw [eh980, mh_up_ne n_q321_q977]; exact f963
  have n_q362_q977 : q362 ≠ q977 := fun z => by rw [z, e978] at f964; cases f964
  have f999 : h979 q362 = some (mh_Ni 12) := by rw [eh980, mh_up_ne n_q362_q977]; exact f964
  have n_q405_q977 : q405 ≠ q977 := fun z => by rw [z, e978] at f965; cases f965
  have f1000 : h979 q405 = some (mh_Ni 200) := by rw [eh980, mh_up_ne n_q405_q977]; exact f965
  have n_q450_q977 : q450 ≠ q977 := fun z => by rw [z, e978] at f966; cases f966
  have f1001 : h979 q450 = some (mh_Ni 6) := by rw [eh980, mh_up_ne n_q450_q977]; exact f966
  have n_q497_q977 : q497 ≠ q977 := fun z => by rw [z, e978] at f967; cases f967
  have f1002 : h979 q497 = some (mh_Ni 6) := by rw [eh980, mh_up_ne n_q497_q977]; exact f967
  have n_q546_q977 : q546 ≠ q977 := fun z => by rw [z, e978] at f968; cases f968
  have f1003 : h979 q546 = some (mh_Ni 3902) := by rw [eh980, mh_up_ne n_q546_q977]; exact f968
  have n_q597_q977 : q597 ≠ q977 := fun z => by rw [z, e978] at f969; cases f969
  have f1004 : h979 q597 = some (.inl (5, 13, .inr (.inr (.inr (.inr (fun i => if i < 13 then some (a598 i) else none)))))) := by rw [eh980, mh_up_ne n_q597_q977]; exact f969
  have n_a598_q977 : ∀ i, i < 13 → a598 i ≠ q977 := fun i hi z => by have w := f970 i hi; rw [z, e978] at w; cases w
  have f1005 : ∀ i, i < 13 → h979 (a598 i) = some (.inl (0, (20001, .inl (fun _ => 0)))) := fun i hi => by rw [eh980, mh_up_ne (n_a598_q977 i hi)]; exact f970 i hi
  have n_q657_q977 : q657 ≠ q977 := fun z => by rw [z, e978] at f971; cases f971
  have f1006 : h979 q657 = some (.inl (5, 13, .inr (.inr (.inr (.inr (fun i => if i < 13 then some (a658 i) else none)))))) := by rw [eh980, mh_up_ne n_q657_q977]; exact f971
  have n_a658_q977 : ∀ i, i < 13 → a658 i ≠ q977 := fun i hi z => by have w := f972 i hi; rw [z, e978] at w; cases w
  have f1007 : ∀ i, i < 13 → h979 (a658 i) = some (.inl (0, (20001, .inl (fun _ => 0)))) := fun i hi => by rw [eh980, mh_up_ne (n_a658_q977 i hi)]; exact f972 i hi
  have n_q721_q977 : q721 ≠ q977 := fun z => by rw [z, e978] at f973; cases f973
  have f1008 : h979 q721 = some (mh_Ni 100301) := by rw [eh980, mh_up_ne n_q721_q977]; exact f973
  have n_q782_q977 : q782 ≠ q977 := fun z => by rw [z, e978] at f974; cases f974
  have f1009 : h979 q782 = some (mh_Nz 301) := by rw [eh980, mh_up_ne n_q782_q977]; exact f974
  have n_q845_q977 : q845 ≠ q977 := fun z => by rw [z, e978] at f975; cases f975
  have f1010 : h979 q845 = some (mh_Ni 12) := by rw [eh980, mh_up_ne n_q845_q977]; exact f975
  have n_q910_q977 : q910 ≠ q977 := fun z => by rw [z, e978] at f976; cases f976
  have f1011 : h979 q910 = some (mh_Ni 12) := by rw [eh980, mh_up_ne n_q910_q977]; exact f976
  have f1012 : h979 q977 = some (mh_Ni 12) := by rw [eh980]; exact mh_up_eq _ _ _
  refine mh_putF cx wd hin (ci := 12) (k := 36) (C := RX12) (T := TX12) (N := 38) (ty0 := tyX12) (ty := (.array .int)) ob983 rfl (by decide) uw_X12 (mh_in 1252 (by decide +kernel) (by decide +kernel)) tyX12_ok nmX12 rfl rfl (by decide +kernel) rfl rfl (Nat.le_of_ble_eq_true rfl) dX12_init_227 (fun H locs wd => ?_)
  obtain ⟨h1013, eh1014⟩ : ∃ x, x = mh_up h979 o (.inr (12, [.int 0, .ref q1, .ref q14, .int 0, .int 0, .int 0, .ref q36, .int (-1), .ref q63, .ref q91, .ref q116, .ref q143, .ref q172, .ref q210, .int 0, .int 0, .int 0, .ref q245, .ref q282, .ref q321, .ref q362, .ref q405, .int 0, .int 0, .ref q450, .ref q497, .int 0, .int 0, .int 0, .ref q546, .ref q597, .ref q657, .ref q721, .ref q782, .ref q845, .ref q910, .ref q977, .null])) := ⟨_, rfl⟩
  have wd : mh_W D ks L (mh_A L0 s.heap.size) s.heap h1013 H locs := by rw [eh1014]; exact wd
  have R1015 : mh_Rg h o h1013 (((((((((((((((((((((((([] ++ [q1]) ++ q14 :: (List.range 21).map a15) ++ [q36]) ++ q63 :: (List.range 13).map a64) ++ [q91]) ++ [q116]) ++ [q143]) ++ q172 :: (List.range 13).map a173) ++ [q210]) ++ [q245]) ++ [q282]) ++ [q321]) ++ [q362]) ++ [q405]) ++ [q450]) ++ [q497]) ++ [q546]) ++ q597 :: (List.range 13).map a598) ++ q657 :: (List.range 13).map a658) ++ [q721]) ++ [q782]) ++ [q845]) ++ [q910]) ++ [q977]) := by rw [eh1014]; exact R981.set
  have ob1016 : h1013 o = some (.inr (12, [.int 0, .ref q1, .ref q14, .int 0, .int 0, .int 0, .ref q36, .int (-1), .ref q63, .ref q91, .ref q116, .ref q143, .ref q172, .ref q210, .int 0, .int 0, .int 0, .ref q245, .ref q282, .ref q321, .ref q362, .ref q405, .int 0, .int 0, .ref q450, .ref q497, .int 0, .int 0, .int 0, .ref q546, .ref q597, .ref q657, .ref q721, .ref q782, .ref q845, .ref q910, .ref q977, .null])) := by rw [eh1014]; exact mh_up_eq _ _ _
  have f1017 : h1013 q1 = some (mh_Ni 304) := by rw [eh1014, mh_up_ne n6]; exact f984
  have f1018 : h1013 q14 = some (.inl (5, 21, .inr (.inr (.inr (.inr (fun i => if i < 21 then some (a15 i) else none)))))) := by rw [eh1014, mh_up_ne n22]; exact f985
  have f1019 : ∀ i, i < 21 → h1013 (a15 i) = some (.inl (0, (304, .inl (fun _ => 0)))) := fun i hi => by rw [eh1014, mh_up_ne (n23 i hi)]; exact f986 i hi
  have f1020 : h1013 q36 = some (mh_Ni 12) := by rw [eh1014, mh_up_ne n41]; exact f987
  have f1021 : h1013 q63 = some (.inl (5, 13, .inr (.inr (.inr (.inr (fun i => if i < 13 then some (a64 i) else none)))))) := by rw [eh1014, mh_up_ne n71]; exact f988
  have f1022 : ∀ i, i < 13 → h1013 (a64 i) = some (.inl (0, (100301, .inl (fun _ => 0)))) := fun i hi => by rw [eh1014, mh_up_ne (n72 i hi)]; exact f989 i hi
  have f1023 : h1013 q91 = some (mh_Nz 200001) := by rw [eh1014, mh_up_ne n96]; exact f990
  have f1024 : h1013 q116 = some (mh_Nz 200001) := by rw [eh1014, mh_up_ne n121]; exact f991
  have f1025 : h1013 q143 = some (mh_Nz 200001) := by rw [eh1014, mh_up_ne n148]; exact f992
  have f1026 : h1013 q172 = some (.inl (6, 13, .inr (.inr (.inr (.inr (fun i => if i < 13 then some (a173 i) else none)))))) := by rw [eh1014, mh_up_ne n180]; exact f993
  have f1027 : ∀ i, i < 13 → h1013 (a173 i) = some (.inl (1, (3001, .inr (.inl (fun _ => 0))))) := fun i hi => by rw [eh1014, mh_up_ne (n181 i hi)]; exact f994 i hi
  have f1028 : h1013 q210 = some (mh_Ni 24) := by rw [eh1014, mh_up_ne n215]; exact f995
  have f1029 : h1013 q245 = some (mh_Ni 12) := by rw [eh1014, mh_up_ne n250]; exact f996
  have f1030 : h1013 q282 = some (mh_Ni 12) := by rw [eh1014, mh_up_ne n287]; exact f997
  have f1031 : h1013 q321 = some (mh_Ni 2400) := by rw [eh1014, mh_up_ne n326]; exact f998
  have f1032 : h1013 q362 = some (mh_Ni 12) := by rw [eh1014, mh_up_ne n367]; exact f999
  have f1033 : h1013 q405 = some (mh_Ni 200) := by rw [eh1014, mh_up_ne n410]; exact f1000
  have f1034 : h1013 q450 = some (mh_Ni 6) := by rw [eh1014, mh_up_ne n455]; exact f1001
  have f1035 : h1013 q497 = some (mh_Ni 6) := by rw [eh1014, mh_up_ne n502]; exact f1002
  have f1036 : h1013 q546 = some (mh_Ni 3902) := by rw [eh1014, mh_up_ne n551]; exact f1003
  have f1037 : h1013 q597 = some (.inl (5, 13, .inr (.inr (.inr (.inr (fun i => if i < 13 then some (a598 i) else none)))))) := by rw [eh1014, mh_up_ne n605]; exact f1004
  have f1038 : ∀ i, i < 13 → h1013 (a598 i) = some (.inl (0, (20001, .inl (fun _ => 0)))) := fun i hi => by rw [eh1014, mh_up_ne (n606 i hi)]; exact f1005 i hi
  have f1039 : h1013 q657 = some (.inl (5, 13, .inr (.inr (.inr (.inr (fun i => if i < 13 then some (a658 i) else none)))))) := by rw [eh1014, mh_up_ne n665]; exact f1006
  have f1040 : ∀ i, i < 13 → h1013 (a658 i) = some (.inl (0, (20001, .inl (fun _ => 0)))) := fun i hi => by rw [eh1014, mh_up_ne (n666 i hi)]; exact f1007 i hi
  have f1041 : h1013 q721 = some (mh_Ni 100301) := by rw [eh1014, mh_up_ne n726]; exact f1008
  have f1042 : h1013 q782 = some (mh_Nz 301) := by rw [eh1014, mh_up_ne n787]; exact f1009
  have f1043 : h1013 q845 = some (mh_Ni 12) := by rw [eh1014, mh_up_ne n850]; exact f1010
  have f1044 : h1013 q910 = some (mh_Ni 12) := by rw [eh1014, mh_up_ne n915]; exact f1011
  have f1045 : h1013 q977 = some (mh_Ni 12) := by rw [eh1014, mh_up_ne n982]; exact f1012
  refine lv_aload_n hx hb dX12_init_230 rfl (lv_at hl 0 rfl) ?_
  refine lv_bipush (v := 50) hx hb dX12_init_231 (by decide) ?_
  refine mh_nwi (N' := 50) cx wd wo_int (by decide) rfl (by decide) (Nat.le_of_ble_eq_true rfl) (Nat.le_of_ble_eq_true rfl) dX12_init_233 (fun q1046 L H e1047 wd => ?_)
  obtain ⟨h1048, eh1049⟩ : ∃ x, x = mh_up h1013 q1046 (mh_Ni 50) := ⟨_, rfl⟩
  rw [← eh1049] at wd
  have R1050 : mh_Rg h o h1048 ((((((((((((((((((((((((([] ++ [q1]) ++ q14 :: (List.range 21).map a15) ++ [q36]) ++ q63 :: (List.range 13).map a64) ++ [q91]) ++ [q116]) ++ [q143]) ++ q172 :: (List.range 13).map a173) ++ [q210]) ++ [q245]) ++ [q282]) ++ [q321]) ++ [q362]) ++ [q405]) ++ [q450]) ++ [q497]) ++ [q546]) ++ q597 :: (List.range 13).map a598) ++ q657 :: (List.range 13).map a658) ++ [q721]) ++ [q782]) ++ [q845]) ++ [q910]) ++ [q977]) ++ [q1046]) := by rw [eh1049]; exact R1015.add e1047
  have n1051 : q1046 ≠ o := fun z => by rw [z, ob1016] at e1047; cases e1047
  have ob1052 : h1048 o = some (.inr (12, [.int 0, .ref q1, .ref q14, .int 0, .int 0, .int 0, .ref q36, .int (-1), .ref q63, .ref q91, .ref q116, .ref q143, .ref q172, .ref q210, .int 0, .int 0, .int 0, .ref q245, .ref q282, .ref q321, .ref q362, .ref q405, .int 0, .int 0, .ref q450, .ref q497, .int 0, .int 0, .int 0, .ref q546, .ref q597, .ref q657, .ref q721, .ref q782, .ref q845, .ref q910, .ref q977, .null])) := by rw [eh1049, mh_up_ne (fun z => n1051 z.symm)]; exact ob1016
  have n_q1_q1046 : q1 ≠ q1046 := fun z => by rw [z, e1047] at f1017; cases f1017
  have f1053 : h1048 q1 = some (mh_Ni 304) := by rw [eh1049, mh_up_ne n_q1_q1046]; exact f1017
  have n_q14_q1046 : q14 ≠ q1046 := fun z => by rw [z, e1047] at f1018; cases f1018
  have f1054 : h1048 q14 = some (.inl (5, 21, .inr (.inr (.inr (.inr (fun i => if i < 21 then some (a15 i) else none)))))) := by rw [eh1049, mh_up_ne n_q14_q1046]; exact f1018
  have n_a15_q1046 : ∀ i, i < 21 → a15 i ≠ q1046 := fun i hi z => by have w := f1019 i hi; rw [z, e1047] at w; cases w
  have f1055 : ∀ i, i < 21 → h1048 (a15 i) = some (.inl (0, (304, .inl (fun _ => 0)))) := fun i hi => by rw [eh1049, mh_up_ne (n_a15_q1046 i hi)]; exact f1019 i hi
  have n_q36_q1046 : q36 ≠ q1046 := fun z => by rw [z, e1047] at f1020; cases f1020
  have f1056 : h1048 q36 = some (mh_Ni 12) := by rw [eh1049, mh_up_ne n_q36_q1046]; exact f1020
  have n_q63_q1046 : q63 ≠ q1046 := fun z => by rw [z, e1047] at f1021; cases f1021
  have f1057 : h1048 q63 = some (.inl (5, 13, .inr (.inr (.inr (.inr (fun i => if i < 13 then some (a64 i) else none)))))) := by rw [eh1049, mh_up_ne n_q63_q1046]; exact f1021
  have n_a64_q1046 : ∀ i, i < 13 → a64 i ≠ q1046 := fun i hi z => by have w := f1022 i hi; rw [z, e1047] at w; cases w
  have f1058 : ∀ i, i < 13 → h1048 (a64 i) = some (.inl (0, (100301, .inl (fun _ => 0)))) := fun i hi => by rw [eh1049, mh_up_ne (n_a64_q1046 i hi)]; exact f1022 i hi
  have n_q91_q1046 : q91 ≠ q1046 := fun z => by rw [z, e1047] at f1023; cases f1023
  have f1059 : h1048 q91 = some (mh_Nz 200001) := by rw [eh1049, mh_up_ne n_q91_q1046]; exact f1023
  have n_q116_q1046 : q116 ≠ q1046 := fun z => by rw [z, e1047] at f1024; cases f1024
  have f1060 : h1048 q116 = some (mh_Nz 200001) := by rw [eh1049, mh_up_ne n_q116_q1046]; exact f1024
  have n_q143_q1046 : q143 ≠ q1046 := fun z => by rw [z, e1047] at f1025; cases f1025
  have f1061 : h1048 q143 = some (mh_Nz 200001) := by rw [eh1049, mh_up_ne n_q143_q1046]; exact f1025
  have n_q172_q1046 : q172 ≠ q1046 := fun z => by rw [z, e1047] at f1026; cases f1026
  have f1062 : h1048 q172 = some (.inl (6, 13, .inr (.inr (.inr (.inr (fun i => if i < 13 then some (a173 i) else none)))))) := by rw [eh1049, mh_up_ne n_q172_q1046]; exact f1026
  have n_a173_q1046 : ∀ i, i < 13 → a173 i ≠ q1046 := fun i hi z => by have w := f1027 i hi; rw [z, e1047] at w; cases w
  have f1063 : ∀ i, i < 13 → h1048 (a173 i) = some (.inl (1, (3001, .inr (.inl (fun _ => 0))))) := fun i hi => by rw [eh1049, mh_up_ne (n_a173_q1046 i hi)]; exact f1027 i hi
  have n_q210_q1046 : q210 ≠ q1046 := fun z => by rw [z, e1047] at f1028; cases f1028
  have f1064 : h1048 q210 = some (mh_Ni 24) := by rw [eh1049, mh_up_ne n_q210_q1046]; exact f1028
  have n_q245_q1046 : q245 ≠ q1046 := fun z => by rw [z, e1047] at f1029; cases f1029
  have f1065 : h1048 q245 = some (mh_Ni 12) := by rw [eh1049, mh_up_ne n_q245_q1046]; exact f1029
  have n_q282_q1046 : q282 ≠ q1046 := fun z => by rw [z, e1047] at f1030; cases f1030
  have f1066 : h1048 q282 = some (mh_Ni 12) := by rw [eh1049, mh_up_ne n_q282_q1046]; exact f1030
  have n_q321_q1046 : q321 ≠ q1046 := fun z => by rw [z, e1047] at f1031; cases f1031
  have f1067 : h1048 q321 = some (mh_Ni 2400) := by rw [eh1049, mh_up_ne n_q321_q1046]; exact f1031
  have n_q362_q1046 : q362 ≠ q1046 := fun z => by rw [z, e1047] at f1032; cases f1032
  have f1068 : h1048 q362 = some (mh_Ni 12) := by rw [eh1049, mh_up_ne n_q362_q1046]; exact f1032
  have n_q405_q1046 : q405 ≠ q1046 := fun z => by rw [z, e1047] at f1033; cases f1033
  have f1069 : h1048 q405 = some (mh_Ni 200) := by rw [eh1049, mh_up_ne n_q405_q1046]; exact f1033
  have n_q450_q1046 : q450 ≠ q1046 := fun z => by rw [z, e1047] at f1034; cases f1034
  have f1070 : h1048 q450 = some (mh_Ni 6) := by rw [eh1049, mh_up_ne n_q450_q1046]; exact f1034
  have n_q497_q1046 : q497 ≠ q1046 := fun z => by rw [z, e1047] at f1035; cases f1035
  have f1071 : h1048 q497 = some (mh_Ni 6) := by rw [eh1049, mh_up_ne n_q497_q1046]; exact f1035
  have n_q546_q1046 : q546 ≠ q1046 := fun z => by rw [z, e1047] at f1036; cases f1036
  have f1072 : h1048 q546 = some (mh_Ni 3902) := by rw [eh1049, mh_up_ne n_q546_q1046]; exact f1036
  have n_q597_q1046 : q597 ≠ q1046 := fun z => by rw [z, e1047] at f1037; cases f1037
  have f1073 : h1048 q597 = some (.inl (5, 13, .inr (.inr (.inr (.inr (fun i => if i < 13 then some (a598 i) else none)))))) := by rw [eh1049, mh_up_ne n_q597_q1046]; exact f1037
  have n_a598_q1046 : ∀ i, i < 13 → a598 i ≠ q1046 := fun i hi z => by have w := f1038 i hi; rw [z, e1047] at w; cases w
  have f1074 : ∀ i, i < 13 → h1048 (a598 i) = some (.inl (0, (20001, .inl (fun _ => 0)))) := fun i hi => by rw [eh1049, mh_up_ne (n_a598_q1046 i hi)]; exact f1038 i hi
  have n_q657_q1046 : q657 ≠ q1046 := fun z => by rw [z, e1047] at f1039; cases f1039
  have f1075 : h1048 q657 = some (.inl (5, 13, .inr (.inr (.inr (.inr (fun i => if i < 13 then some (a658 i) else none)))))) := by rw [eh1049, mh_up_ne n_q657_q1046]; exact f1039
  have n_a658_q1046 : ∀ i, i < 13 → a658 i ≠ q1046 := fun i hi z => by have w := f1040 i hi; rw [z, e1047] at w; cases w
  have f1076 : ∀ i, i < 13 → h1048 (a658 i) = some (.inl (0, (20001, .inl (fun _ => 0)))) := fun i hi => by rw [eh1049, mh_up_ne (n_a658_q1046 i hi)]; exact f1040 i hi
  have n_q721_q1046 : q721 ≠ q1046 := fun z => by rw [z, e1047] at f1041; cases f1041
  have f1077 : h1048 q721 = some (mh_Ni 100301) := by rw [eh1049, mh_up_ne n_q721_q1046]; exact f1041
  have n_q782_q1046 : q782 ≠ q1046 := fun z => by rw [z, e1047] at f1042; cases f1042
  have f1078 : h1048 q782 = some (mh_Nz 301) := by rw [eh1049, mh_up_ne n_q782_q1046]; exact f1042
  have n_q845_q1046 : q845 ≠ q1046 := fun z => by rw [z, e1047] at f1043; cases f1043
  have f1079 : h1048 q845 = some (mh_Ni 12) := by rw [eh1049, mh_up_ne n_q845_q1046]; exact f1043
  have n_q910_q1046 : q910 ≠ q1046 := fun z => by rw [z, e1047] at f1044; cases f1044
  have f1080 : h1048 q910 = some (mh_Ni 12) := by rw [eh1049, mh_up_ne n_q910_q1046]; exact f1044
  have n_q977_q1046 : q977 ≠ q1046 := fun z => by rw [z, e1047] at f1045; cases f1045
  have f1081 : h1048 q977 = some (mh_Ni 12) := by rw [eh1049, mh_up_ne n_q977_q1046]; exact f1045
  have f1082 : h1048 q1046 = some (mh_Ni 50) := by rw [eh1049]; exact mh_up_eq _ _ _
  refine mh_putF cx wd hin (ci := 12) (k := 37) (C := RX12) (T := TX12) (N := 38) (ty0 := tyX12) (ty := (.array .int)) ob1052 rfl (by decide) uw_X12 (mh_in 1253 (by decide +kernel) (by decide +kernel)) tyX12_ok nmX12 rfl rfl (by decide +kernel) rfl rfl (Nat.le_of_ble_eq_true rfl) dX12_init_235 (fun H locs wd => ?_)
  obtain ⟨h1083, eh1084⟩ : ∃ x, x = mh_up h1048 o (.inr (12, [.int 0, .ref q1, .ref q14, .int 0, .int 0, .int 0, .ref q36, .int (-1), .ref q63, .ref q91, .ref q116, .ref q143, .ref q172, .ref q210, .int 0, .int 0, .int 0, .ref q245, .ref q282, .ref q321, .ref q362, .ref q405, .int 0, .int 0, .ref q450, .ref q497, .int 0, .int 0, .int 0, .ref q546, .ref q597, .ref q657, .ref q721, .ref q782, .ref q845, .ref q910, .ref q977, .ref q1046])) := ⟨_, rfl⟩
  have wd : mh_W D ks L (mh_A L0 s.heap.size) s.heap h1083 H locs := by rw [eh1084]; exact wd
  have R1085 : mh_Rg h o h1083 ((((((((((((((((((((((((([] ++ [q1]) ++ q14 :: (List.range 21).map a15) ++ [q36]) ++ q63 :: (List.range 13).map a64) ++ [q91]) ++ [q116]) ++ [q143]) ++ q172 :: (List.range 13).map a173) ++ [q210]) ++ [q245]) ++ [q282]) ++ [q321]) ++ [q362]) ++ [q405]) ++ [q450]) ++ [q497]) ++ [q546]) ++ q597 :: (List.range 13).map a598) ++ q657 :: (List.range 13).map a658) ++ [q721]) ++ [q782]) ++ [q845]) ++ [q910]) ++ [q977]) ++ [q1046]) := by rw [eh1084]; exact R1050.set
  have ob1086 : h1083 o = some (.inr (12, [.int 0, .ref q1, .ref q14, .int 0, .int 0, .int 0, .ref q36, .int (-1), .ref q63, .ref q91, .ref q116, .ref q143, .ref q172, .ref q210, .int 0, .int 0, .int 0, .ref q245, .ref q282, .ref q321, .ref q362, .ref q405, .int 0, .int 0, .ref q450, .ref q497, .int 0, .int 0, .int 0, .ref q546, .ref q597, .ref q657, .ref q721, .ref q782, .ref q845, .ref q910, .ref q977, .ref q1046])) := by rw [eh1084]; exact mh_up_eq _ _ _
  have f1087 : h1083 q1 = some (mh_Ni 304) := by rw [eh1084, mh_up_ne n6]; exact f1053
  have f1088 : h1083 q14 = some (.inl (5, 21, .inr (.inr (.inr (.inr (fun i => if i < 21 then some (a15 i) else none)))))) := by rw [eh1084, mh_up_ne n22]; exact f1054
  have f1089 : ∀ i, i < 21 → h1083 (a15 i) = some (.inl (0, (304, .inl (fun _ => 0)))) := fun i hi => by rw [eh1084, mh_up_ne (n23 i hi)]; exact f1055 i hi
  have f1090 : h1083 q36 = some (mh_Ni 12) := by rw [eh1084, mh_up_ne n41]; exact f1056
  have f1091 : h1083 q63 = some (.inl (5, 13, .inr (.inr (.inr (.inr (fun i => if i < 13 then some (a64 i) else none)))))) := by rw [eh1084, mh_up_ne n71]; exact f1057
  have f1092 : ∀ i, i < 13 → h1083 (a64 i) = some (.inl (0, (100301, .inl (fun _ => 0)))) := fun i hi => by rw [eh1084, mh_up_ne (n72 i hi)]; exact f1058 i hi
  have f1093 : h1083 q91 = some (mh_Nz 200001) := by rw [eh1084, mh_up_ne n96]; exact f1059
  have f1094 : h1083 q116 = some (mh_Nz 200001) := by rw [eh1084, mh_up_ne n121]; exact f1060
  have f1095 : h1083 q143 = some (mh_Nz 200001) := by rw [eh1084, mh_up_ne n148]; exact f1061
  have f1096 : h1083 q172 = some (.inl (6, 13, .inr (.inr (.inr (.inr (fun i => if i < 13 then some (a173 i) else none)))))) := by rw [eh1084, mh_up_ne n180]; exact f1062
  have f1097 : ∀ i, i < 13 → h1083 (a173 i) = some (.inl (1, (3001, .inr (.inl (fun _ => 0))))) := fun i hi => by rw [eh1084, mh_up_ne (n181 i hi)]; exact f1063 i hi
  have f1098 : h1083 q210 = some (mh_Ni 24) := by rw [eh1084, mh_up_ne n215]; exact f1064
  have f1099 : h1083 q245 = some (mh_Ni 12) := by rw [eh1084, mh_up_ne n250]; exact f1065
  have f1100 : h1083 q282 = some (mh_Ni 12) := by rw [eh1084, mh_up_ne n287]; exact f1066
  have f1101 : h1083 q321 = some (mh_Ni 2400) := by rw [eh1084, mh_up_ne n326]; exact f1067
  have f1102 : h1083 q362 = some (mh_Ni 12) := by rw [eh1084, mh_up_ne n367]; exact f1068
  have f1103 : h1083 q405 = some (mh_Ni 200) := by rw [eh1084, mh_up_ne n410]; exact f1069
  have f1104 : h1083 q450 = some (mh_Ni 6) := by rw [eh1084, mh_up_ne n455]; exact f1070
  have f1105 : h1083 q497 = some (mh_Ni 6) := by rw [eh1084, mh_up_ne n502]; exact f1071
  have f1106 : h1083 q546 = some (mh_Ni 3902) := by rw [eh1084, mh_up_ne n551]; exact f1072
  have f1107 : h1083 q597 = some (.inl (5, 13, .inr (.inr (.inr (.inr (fun i => if i < 13 then some (a598 i) else none)))))) := by rw [eh1084, mh_up_ne n605]; exact f1073
  have f1108 : ∀ i, i < 13 → h1083 (a598 i) = some (.inl (0, (20001, .inl (fun _ => 0)))) := fun i hi => by rw [eh1084, mh_up_ne (n606 i hi)]; exact f1074 i hi
  have f1109 : h1083 q657 = some (.inl (5, 13, .inr (.inr (.inr (.inr (fun i => if i < 13 then some (a658 i) else none)))))) := by rw [eh1084, mh_up_ne n665]; exact f1075
  have f1110 : ∀ i, i < 13 → h1083 (a658 i) = some (.inl (0, (20001, .inl (fun _ => 0)))) := fun i hi => by rw [eh1084, mh_up_ne (n666 i hi)]; exact f1076 i hi
  have f1111 : h1083 q721 = some (mh_Ni 100301) := by rw [eh1084, mh_up_ne n726]; exact f1077
  have f1112 : h1083 q782 = some (mh_Nz 301) := by rw [eh1084, mh_up_ne n787]; exact f1078
  have f1113 : h1083 q845 = some (mh_Ni 12) := by rw [eh1084, mh_up_ne n850]; exact f1079
  have f1114 : h1083 q910 = some (mh_Ni 12) := by rw [eh1084, mh_up_ne n915]; exact f1080
  have f1115 : h1083 q977 = some (mh_Ni 12) := by rw [eh1084, mh_up_ne n982]; exact f1081
  have f1116 : h1083 q1046 = some (mh_Ni 50) := by rw [eh1084, mh_up_ne n1051]; exact f1082
  exact mh_cret cx wd hr ⟨q1, q14, a15, q36, q63, a64, q91, q116, q143, q172, a173, q210, q245, q282, q321, q362, q405, q450, q497, q546, q597, a598, q657, a658, q721, q782, q845, q910, q977, q1046, R1085, ob1086, f1087, f1088, f1089, f1090, f1091, f1092, f1093, f1094, f1095, f1096, f1097, f1098, f1099, f1100, f1101, f1102, f1103, f1104, f1105, f1106, f1107, f1108, f1109, f1110, f1111, f1112, f1113, f1114, f1115, f1116⟩ dX12_init_238 ⟨Nat.le_of_ble_eq_true rfl, Nat.le_of_ble_eq_true rfl⟩
