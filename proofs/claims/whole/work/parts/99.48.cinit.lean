/-! the constructors of the class's inner classes -/
section MhCi
variable {p : Program} {l : Launch} {e : Env} {R : Room} {s : State} {m : MethodId} {args : Array Value} {below : List Frame} {meth : Method} {c : Code} {H : Heap} {locs : List Loc} {cells slots : Nat} {Q : State → Prop}
variable {cc : ByteArray} {pc nL : Nat} {ls : Array Slot} {rest : List Value} {D : va_G} {ks : Nat → ClassId} {L : List Nat} {A : Nat → Prop} {own : String} {h : mh_H}
theorem mh_putN (cx : mh_C p m c cc nL s args own meth D ks A) (wd : mh_W D ks L A s.heap h H locs) {a ci k index : Nat} {fs : List Value} {v : Int32} (ha : h a = some (.inr (ci, fs))) (hk : k < fs.length) (K : mh_FP own index ci k .int) (hdg : decode cc pc = .ok (.putfield index, 3))
    (kk : ∀ H locs, mh_W D ks L A s.heap (mh_up h a (.inr (ci, fs.set k (.int v)))) H locs → W p l e R s m args below meth c H locs cells slots Q (F0 m (pc + 3) ls rest)) : W p l e R s m args below meth c H locs cells slots Q (F0 m pc ls (.int v :: .ref a :: rest)) := by
  refine mh_putI (f := some) (Rz := mh_up h a (.inr (ci, fs.set k (.int v)))) cx wd K hdg (by rw [mh_pI_eq ha hk]; rfl) (fun h' H locs wd hX => ?_)
  cases hX
  exact kk H locs wd
end MhCi
theorem wo_code : Cond.code Lib.objectInit ⟨#[0xb1]⟩ 1 none ∈ mh_TB := mh_in 88 (by decide +kernel) (by decide +kernel)
theorem wo_inst : Cond.instanceMethod Lib.objectInit ∈ mh_TB := mh_in 87 (by decide +kernel) (by decide +kernel)
theorem wo_int : Cond.arrayClass .int ∈ mh_TB := mh_in 111 (by decide +kernel) (by decide +kernel)
theorem wo_X1 : Cond.methodLink RX1 3 Lib.objectInit ∈ mh_TB := mh_in 103 (by decide +kernel) (by decide +kernel)
def mh_pX1 (h : mh_H) (o : Nat) (h' : mh_H) : Prop := ∃ a, h a = none ∧ h' = mh_up (mh_up h a (.inl (0, 12, .inl (fun _ => 0)))) o (.inr (1, [.ref a, .int 0]))
set_option maxRecDepth 100000 in
set_option maxHeartbeats 4000000 in
theorem c_X1_init {l : Launch} {L : List Nat} {h : mh_H} {o : Nat} (ho : h o = some (.inr (1, [.null, .int 0]))) : mh_Mc l yX1_init (Cond.code yX1_init cX1_init 1 none :: mh_TB) (mh_rn 1 1 12) o L h (mh_pX1 h o) 1 12 := by
  refine mh_ofC (by decide) rfl (Nat.le_of_ble_eq_true rfl) (fun p e s m below meth c D ks ls hr hin ao cx wd hl => ?_)
  have hx := cx.1.1
  have hb := cx.1.2.1
  refine lv_aload_n hx hb dX1_init_0 rfl (lv_at hl 0 rfl) ?_
  refine mh_obj cx wo_X1 wo_inst wo_code hl.1 dX1_init_1 ⟨Nat.le_of_ble_eq_true rfl, Nat.le_of_ble_eq_true rfl⟩ ?_
  refine lv_aload_n hx hb dX1_init_4 rfl (lv_at hl 0 rfl) ?_
  refine lv_bipush (v := 12) hx hb dX1_init_5 (by decide) ?_
  refine mh_nwi (N' := 12) cx wd wo_int (by decide) rfl (by decide) (Nat.le_of_ble_eq_true rfl) (Nat.le_of_ble_eq_true rfl) dX1_init_7 (fun a L H ha wd => ?_)
  have oa : o ≠ a := fun z => by rw [z, ha] at ho; cases ho
  have ho1 : mh_up h a (.inl (0, 12, .inl (fun _ => 0))) o = some (.inr (1, [.null, .int 0])) := by rw [mh_up_ne oa]; exact ho
  refine mh_putF cx wd hin (ci := 1) (k := 0) (C := RX1) (T := TX1) (N := 2) (ty0 := tyX1) (ty := .array .int) ho1 rfl (by decide) uw_X1 (mh_in 104 (by decide +kernel) (by decide +kernel)) tyX1_ok nmX1 rfl rfl (by decide +kernel) rfl rfl (by decide) dX1_init_9 (fun H locs wd => ?_)
  refine lv_aload_n hx hb dX1_init_12 rfl (lv_at hl 0 rfl) ?_
  refine lv_iconst (v := 0) hx hb dX1_init_13 (by decide) ?_
  refine mh_putN (fs := [.ref a, .int 0]) (k := 1) cx wd (mh_up_eq _ _ _) (Nat.le_of_ble_eq_true rfl) fp_X1_15 dX1_init_14 (fun H locs wd => ?_)
  refine mh_cret cx wd hr ⟨a, ha, ?_⟩ dX1_init_17 ⟨Nat.le_of_ble_eq_true rfl, Nat.le_of_ble_eq_true rfl⟩
  funext b
  unfold mh_up
  by_cases e1 : b = o
  · rw [if_pos e1, if_pos e1]; rfl
  · rw [if_neg e1, if_neg e1, if_neg e1]
