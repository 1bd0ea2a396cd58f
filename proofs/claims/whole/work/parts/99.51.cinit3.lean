theorem mh_rws_ne {h : mh_H} {q b N : Nat} {e z : mh_E} {rf : Nat → Nat} (h1 : b ≠ q) (h2 : ∀ i, i < N → b ≠ rf i) : mh_rws h q e ((List.range N).map rf) z b = h b := by
  unfold mh_rws
  rw [if_neg h1, if_neg (fun w => by
    obtain ⟨i, i1, i2⟩ := List.mem_map.mp w
    exact h2 i (List.mem_range.mp i1) i2.symm)]
theorem mh_rws_in {h : mh_H} {q i N : Nat} {e z : mh_E} {rf : Nat → Nat} (h1 : rf i ≠ q) (hi : i < N) : mh_rws h q e ((List.range N).map rf) z (rf i) = some z := by
  unfold mh_rws
  rw [if_neg h1, if_pos (List.mem_map.mpr ⟨i, List.mem_range.mpr hi, rfl⟩)]
theorem mh_inI (K : Nat) (c : ClassId) : Jvm.Free.Multi.innerC c K (defaultValue .int) = vp_cell c (K, .inl (fun _ => 0)) := by
  show ({ cls := c, slots := Array.replicate K (.int 0), vm := .none } : Cell) = _
  rw [arrV_new]
  rfl
theorem mh_inJ (K : Nat) (c : ClassId) : Jvm.Free.Multi.innerC c K (defaultValue .long) = vp_cell c (K, .inr (.inl (fun _ => 0))) := by
  show ({ cls := c, slots := Array.replicate K (.long 0), vm := .none } : Cell) = _
  rw [arrV_new]
  rfl

def mh_qX10 (h : mh_H) (o : Nat) (h' : mh_H) : Prop := ∃ (b0 : Nat) (b1 : Nat) (b2 : Nat) (b3 : Nat → Nat), mh_Rg h o h' ((([] ++ [b0]) ++ ([] ++ [b1])) ++ b2 :: (List.range 13).map b3) ∧ h' o = some (.inr (10, [.ref b0, .ref b2, .int (-1)])) ∧ h' b0 = some (.inr (1, [.ref b1, .int 0])) ∧ h' b1 = some (mh_Ni 12) ∧ h' b2 = some (.inl (6, 13, .inr (.inr (.inr (.inr (fun i => if i < 13 then some (b3 i) else none)))))) ∧ ∀ i, i < 13 → h' (b3 i) = some (.inl (1, (3001, .inr (.inl (fun _ => 0)))))
set_option maxRecDepth 100000 in
set_option maxHeartbeats 4000000 in
theorem c_X10_init {l : Launch} {L0 : List Nat} {h : mh_H} {o : Nat} (ho : h o = some (.inr (10, [.null, .null, .int 0]))) : mh_Mc l yX10_init (Cond.code yX10_init cX10_init 1 none :: mh_TB) (mh_rn 2 16 39040) o L0 h (mh_qX10 h o) 16 39040 := by
  refine mh_ofC (by decide) rfl (Nat.le_of_ble_eq_true rfl) (fun p e s m below meth c D ks ls hr hin ao cx wd hl => ?_)
  have hx := cx.1.1
  have hb := cx.1.2.1
  have R0 : mh_Rg h o h [] := mh_Rg.nil (by rw [ho]; exact fun z => by cases z)
  refine lv_aload_n hx hb dX10_init_0 rfl (lv_at hl 0 rfl) ?_
  refine mh_obj cx (mh_in 218 (by decide +kernel) (by decide +kernel)) wo_inst wo_code hl.1 dX10_init_1 ⟨Nat.le_of_ble_eq_true rfl, Nat.le_of_ble_eq_true rfl⟩ ?_
  refine lv_aload_n hx hb dX10_init_4 rfl (lv_at hl 0 rfl) ?_
  refine mh_new cx wd (C := RX1) (T := TX1) (N := 2) (ci := 1) tyX1 [.null, .int 0] rfl uw_X1 tyX1_ok (mh_in 219 (by decide +kernel) (by decide +kernel)) (mh_in 99 (by decide +kernel) (by decide +kernel)) (mh_in 63 (by decide +kernel) (by decide +kernel)) (fun j hj => by rcases (show j = 0 ∨ j = 1 by omega) with rfl | rfl <;> rfl) (Nat.le_of_ble_eq_true rfl) (Nat.le_of_ble_eq_true rfl) dX10_init_5 (fun q1 L H e2 wd => ?_)
  obtain ⟨h3, eh4⟩ : ∃ x, x = mh_up h q1 (.inr (1, [.null, .int 0])) := ⟨_, rfl⟩
  rw [← eh4] at wd
  have R5 : mh_Rg h o h3 ([] ++ [q1]) := by rw [eh4]; exact R0.add e2
  have n6 : q1 ≠ o := fun z => by rw [z, ho] at e2; cases e2
  have ob7 : h3 o = some (.inr (10, [.null, .null, .int 0])) := by rw [eh4, mh_up_ne (fun z => n6 z.symm)]; exact ho
  have f8 : h3 q1 = some (.inr (1, [.null, .int 0])) := by rw [eh4]; exact mh_up_eq _ _ _
  refine lv_dup hx hb dX10_init_8 rfl ?_
  refine mh_callC (host := "MintHouse") cx ao wd yw_X1_init rfl (mh_nin 220 (by decide +kernel) (by decide +kernel)) (mh_in 101 (by decide +kernel) (by decide +kernel)) hl.1 (Nat.le_of_ble_eq_true rfl) dX10_init_9 ⟨Nat.le_of_ble_eq_true rfl, Nat.le_of_ble_eq_true rfl⟩ ⟨Nat.le_of_ble_eq_true rfl, Nat.le_of_ble_eq_true rfl⟩ (c_X1_inq f8) (fun L h9 H locs hp10 wd => ?_)
  obtain ⟨a12, S11, f13, f14⟩ := hp10
  have R15 : mh_Rg h o h9 (([] ++ [q1]) ++ ([] ++ [a12])) := R5.call (q := q1) (by simp) S11
  have ob16 : h9 o = some (.inr (10, [.null, .null, .int 0])) := (S11.kept (fun z => n6 z.symm) (by rw [ob7]; exact fun z => by cases z)).trans ob7
  have n17 : a12 ≠ o := fun z => by have w := (S11.2.1 a12 (by simp)).1; rw [z, ob7] at w; cases w
  refine mh_putF cx wd hin (ci := 10) (k := 0) (C := RX10) (T := TX10) (N := 3) (ty0 := tyX10) (ty := (.object RX1)) ob16 rfl (by decide) uw_X10 (mh_in 223 (by decide +kernel) (by decide +kernel)) tyX10_ok nmX10 rfl rfl (by decide +kernel) rfl rfl (Nat.le_of_ble_eq_true rfl) dX10_init_12 (fun H locs wd => ?_)
  obtain ⟨h18, eh19⟩ : ∃ x, x = mh_up h9 o (.inr (10, [.ref q1, .null, .int 0])) := ⟨_, rfl⟩
  have wd : mh_W D ks L (mh_A L0 s.heap.size) s.heap h18 H locs := by rw [eh19]; exact wd
  have R20 : mh_Rg h o h18 (([] ++ [q1]) ++ ([] ++ [a12])) := by rw [eh19]; exact R15.set
  have ob21 : h18 o = some (.inr (10, [.ref q1, .null, .int 0])) := by rw [eh19]; exact mh_up_eq _ _ _
  have f22 : h18 q1 = some (.inr (1, [.ref a12, .int 0])) := by rw [eh19, mh_up_ne n6]; exact f13
  have f23 : h18 a12 = some (mh_Ni 12) := by rw [eh19, mh_up_ne n17]; exact f14
  refine lv_aload_n hx hb dX10_init_15 rfl (lv_at hl 0 rfl) ?_
  refine lv_bipush (v := 13) hx hb dX10_init_16 (by decide) ?_
  refine lv_sipush (v := 3001) hx hb dX10_init_18 (by decide) ?_
  refine mh_nwm cx wd 6 1 (ty := .long) (N' := 13) (K' := 3001) (z := (3001, .inr (.inl (fun _ => 0)))) rfl (cx.2.1.2 1 _ rfl).2 ao.2.2.2 (mh_in 221 (by decide +kernel) (by decide +kernel)) wo_long (by decide) (by decide) rfl rfl (by decide) (by decide) (by decide) rfl rfl (Nat.le_of_ble_eq_true rfl) (Nat.le_of_ble_eq_true rfl) (mh_inJ 3001) dX10_init_21 (fun q24 a25 L H e26 e27 e28 wd => ?_)
  obtain ⟨h29, eh30⟩ : ∃ x, x = mh_rws h18 q24 (.inl (6, 13, .inr (.inr (.inr (.inr (fun i => if i < 13 then some (a25 i) else none)))))) ((List.range 13).map a25) (.inl (1, (3001, .inr (.inl (fun _ => 0))))) := ⟨_, rfl⟩
  rw [← eh30] at wd
  have R31 : mh_Rg h o h29 ((([] ++ [q1]) ++ ([] ++ [a12])) ++ q24 :: (List.range 13).map a25) := by rw [eh30]; exact R20.rows e26 e27 e28
  have n32 : q24 ≠ o := fun z => by rw [z, ob21] at e26; cases e26
  have n33 : ∀ i, i < 13 → a25 i ≠ o := fun i hi z => by have w := (e27 i hi).1; rw [z, ob21] at w; cases w
  have k34 : ∀ b, h18 b ≠ none → h29 b = h18 b := fun b hb => by rw [eh30]; exact mh_rws_ne (fun z => hb (by rw [z]; exact e26)) (fun i hi z => hb (by rw [z]; exact (e27 i hi).1))
  have ob35 : h29 o = some (.inr (10, [.ref q1, .null, .int 0])) := (k34 o (by rw [ob21]; exact fun z => by cases z)).trans ob21
  have f36 : h29 q1 = some (.inr (1, [.ref a12, .int 0])) := (k34 _ (by rw [f22]; exact fun z => by cases z)).trans f22
  have f37 : h29 a12 = some (mh_Ni 12) := (k34 _ (by rw [f23]; exact fun z => by cases z)).trans f23
  have f38 : h29 q24 = some (.inl (6, 13, .inr (.inr (.inr (.inr (fun i => if i < 13 then some (a25 i) else none)))))) := by rw [eh30]; exact if_pos rfl
  have f39 : ∀ i, i < 13 → h29 (a25 i) = some (.inl (1, (3001, .inr (.inl (fun _ => 0))))) := fun i hi => by rw [eh30]; exact mh_rws_in (e27 i hi).2 hi
  refine mh_putF cx wd hin (ci := 10) (k := 1) (C := RX10) (T := TX10) (N := 3) (ty0 := tyX10) (ty := (.array (.array .long))) ob35 rfl (by decide) uw_X10 (mh_in 224 (by decide +kernel) (by decide +kernel)) tyX10_ok nmX10 rfl rfl (by decide +kernel) rfl rfl (Nat.le_of_ble_eq_true rfl) dX10_init_25 (fun H locs wd => ?_)
  obtain ⟨h40, eh41⟩ : ∃ x, x = mh_up h29 o (.inr (10, [.ref q1, .ref q24, .int 0])) := ⟨_, rfl⟩
  have wd : mh_W D ks L (mh_A L0 s.heap.size) s.heap h40 H locs := by rw [eh41]; exact wd
  have R42 : mh_Rg h o h40 ((([] ++ [q1]) ++ ([] ++ [a12])) ++ q24 :: (List.range 13).map a25) := by rw [eh41]; exact R31.set
  have ob43 : h40 o = some (.inr (10, [.ref q1, .ref q24, .int 0])) := by rw [eh41]; exact mh_up_eq _ _ _
  have f44 : h40 q1 = some (.inr (1, [.ref a12, .int 0])) := by rw [eh41, mh_up_ne n6]; exact f36
  have f45 : h40 a12 = some (mh_Ni 12) := by rw [eh41, mh_up_ne n17]; exact f37
  have f46 : h40 q24 = some (.inl (6, 13, .inr (.inr (.inr (.inr (fun i => if i < 13 then some (a25 i) else none)))))) := by rw [eh41, mh_up_ne n32]; exact f38
  have f47 : ∀ i, i < 13 → h40 (a25 i) = some (.inl (1, (3001, .inr (.inl (fun _ => 0))))) := fun i hi => by rw [eh41, mh_up_ne (n33 i hi)]; exact f39 i hi
  refine lv_aload_n hx hb dX10_init_28 rfl (lv_at hl 0 rfl) ?_
  refine lv_iconst (v := (-1)) hx hb dX10_init_29 (by decide) ?_
  refine mh_putN (k := 2) cx wd ob43 (Nat.le_of_ble_eq_true rfl)  fp_X10_23 dX10_init_30 (fun H locs wd => ?_)
  obtain ⟨h48, eh49⟩ : ∃ x, x = mh_up h40 o (.inr (10, [.ref q1, .ref q24, .int (-1)])) := ⟨_, rfl⟩
  have wd : mh_W D ks L (mh_A L0 s.heap.size) s.heap h48 H locs := by rw [eh49]; exact wd
  have R50 : mh_Rg h o h48 ((([] ++ [q1]) ++ ([] ++ [a12])) ++ q24 :: (List.range 13).map a25) := by rw [eh49]; exact R42.set
  have ob51 : h48 o = some (.inr (10, [.ref q1, .ref q24, .int (-1)])) := by rw [eh49]; exact mh_up_eq _ _ _
  have f52 : h48 q1 = some (.inr (1, [.ref a12, .int 0])) := by rw [eh49, mh_up_ne n6]; exact f44
  have f53 : h48 a12 = some (mh_Ni 12) := by rw [eh49, mh_up_ne n17]; exact f45
  have f54 : h48 q24 = some (.inl (6, 13, .inr (.inr (.inr (.inr (fun i => if i < 13 then some (a25 i) else none)))))) := by rw [eh49, mh_up_ne n32]; exact f46
  have f55 : ∀ i, i < 13 → h48 (a25 i) = some (.inl (1, (3001, .inr (.inl (fun _ => 0))))) := fun i hi => by rw [eh49, mh_up_ne (n33 i hi)]; exact f47 i hi
  exact mh_cret cx wd hr ⟨q1, a12, q24, a25, R50, ob51, f52, f53, f54, f55⟩ dX10_init_33 ⟨Nat.le_of_ble_eq_true rfl, Nat.le_of_ble_eq_true rfl⟩
