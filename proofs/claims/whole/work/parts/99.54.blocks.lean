/-! the components as their constructors leave them -/
theorem mh_Bk_of {h1 h' : mh_H} {q j : Nat} {r : List Nat} (R : mh_Rg h1 q h' r) (bl : List Nat) (hp : bl.Perm r) (hn : bl.length + 1 = mh_rg (j + 1) - mh_rg j) (hc : ∀ ad : Nat → Nat, (∀ i, i < bl.length + 1 → ad (mh_rg j + i) = (q :: bl).getD i 0) → ∃ hb, mh_Kin h' hb ∧ mh_cc ad mh_s0 j hb) : mh_Bk h1 q h' j 0 := by
  have nd : (q :: bl).Nodup := List.nodup_cons.mpr ⟨fun z => R.no (hp.mem_iff.mp z), hp.nodup_iff.mpr R.1⟩
  refine ⟨fun i => (q :: bl).getD i 0, ?_, rfl, fun i hi => ?_, fun b b1 b2 => R.kept b1 b2, ?_⟩
  · rw [← hn]
    exact mh_gd_inj nd
  · rw [← hn] at hi
    have hm : (q :: bl).getD i 0 ∈ q :: bl := mh_get_mem hi
    show ((q :: bl).getD i 0 = q ∨ h1 ((q :: bl).getD i 0) = none) ∧ h' ((q :: bl).getD i 0) ≠ none
    rcases List.mem_cons.mp hm with z | z
    · exact ⟨Or.inl z, by rw [z]; exact R.2.2.2.2⟩
    · have t := R.2.1 _ (hp.mem_iff.mp z)
      exact ⟨Or.inr t.1, t.2⟩
  · rw [← hn]
    exact hc
theorem mh_co0 {h : mh_H} {a v : Nat} (e1 : h a = some (.inr (1, [.ref v, .int 0]))) (e2 : h v = some (mh_Ni 12)) : mh_Co h a v (fun _ => 0) [] := ⟨e1, e2, Nat.zero_le _, fun i hi => absurd hi (Nat.not_lt_zero _)⟩
theorem mh_pu0 {h : mh_H} {o a v t : Nat} (e0 : h o = some (.inr (7, [.ref a, .ref t]))) (e1 : h a = some (.inr (1, [.ref v, .int 0]))) (e2 : h v = some (mh_Ni 12)) (e3 : h t = some (mh_Ni 12)) : mh_Pu h o a v t (fun _ => 0) (fun _ => 0) [] [] := ⟨e0, mh_co0 e1 e2, e3, rfl, fun i hi => absurd hi (Nat.not_lt_zero _)⟩
theorem mh_pz0 : mh_pz [] [] := ⟨mh_ms_nil, rfl, fun j => Nat.zero_le _, Nat.zero_le _⟩
section MhBlk
variable {h h' : mh_H} {q : Nat}
theorem mh_bX2 (hp : mh_qX2 h q h') : mh_Bk h q h' 1 0 := by
  obtain ⟨b0, b1, b2, b3, b4, R, f0, f1, f2, f3, f4, f5⟩ := hp
  refine mh_Bk_of R [b0, b1, b2, b3, b4] (List.Perm.refl _) rfl (fun ad H => ⟨h', mh_Kin.rfl, ?_⟩)
  have e0 : ad 1011 = q := H 0 (Nat.le_of_ble_eq_true rfl)
  have e1 : ad 1012 = b0 := H 1 (Nat.le_of_ble_eq_true rfl)
  have e2 : ad 1013 = b1 := H 2 (Nat.le_of_ble_eq_true rfl)
  have e3 : ad 1014 = b2 := H 3 (Nat.le_of_ble_eq_true rfl)
  have e4 : ad 1015 = b3 := H 4 (Nat.le_of_ble_eq_true rfl)
  have e5 : ad 1016 = b4 := H 5 (Nat.le_of_ble_eq_true rfl)
  show ∃ c, mh_Fe h' (ad 1011) (ad 1012) (ad 1013) (ad 1014) (ad 1015) (ad 1016) c
  rw [e0, e1, e2, e3, e4, e5]
  exact ⟨[], fun _ => 0, fun _ => 0, fun _ => 0, 1, 0, 0, f0, mh_co0 f1 f2, f3, f4, f5, mh_ms_nil, by decide, fun s hs => by rw [Nat.le_zero.mp hs, mh_mn0]; rfl, Or.inl rfl⟩
theorem mh_bX4_2 (hp : mh_qX4 h q h') : mh_Bk h q h' 2 0 := by
  obtain ⟨b0, b1, R, f0, f1, f2⟩ := hp
  refine mh_Bk_of R [b0, b1] (List.Perm.refl _) rfl (fun ad H => ⟨h', mh_Kin.rfl, ?_⟩)
  have e0 : ad 1017 = q := H 0 (Nat.le_of_ble_eq_true rfl)
  have e1 : ad 1018 = b0 := H 1 (Nat.le_of_ble_eq_true rfl)
  have e2 : ad 1019 = b1 := H 2 (Nat.le_of_ble_eq_true rfl)
  show mh_lx h' (ad 1017) (ad 1018) (ad 1019)
  rw [e0, e1, e2]
  exact ⟨1, fun _ => 0, f0, f1, f2⟩
theorem mh_bX4_3 (hp : mh_qX4 h q h') : mh_Bk h q h' 3 0 := by
  obtain ⟨b0, b1, R, f0, f1, f2⟩ := hp
  refine mh_Bk_of R [b0, b1] (List.Perm.refl _) rfl (fun ad H => ⟨h', mh_Kin.rfl, ?_⟩)
  have e0 : ad 1020 = q := H 0 (Nat.le_of_ble_eq_true rfl)
  have e1 : ad 1021 = b0 := H 1 (Nat.le_of_ble_eq_true rfl)
  have e2 : ad 1022 = b1 := H 2 (Nat.le_of_ble_eq_true rfl)
  show mh_lx h' (ad 1020) (ad 1021) (ad 1022)
  rw [e0, e1, e2]
  exact ⟨1, fun _ => 0, f0, f1, f2⟩
theorem mh_bX4_4 (hp : mh_qX4 h q h') : mh_Bk h q h' 4 0 := by
  obtain ⟨b0, b1, R, f0, f1, f2⟩ := hp
  refine mh_Bk_of R [b0, b1] (List.Perm.refl _) rfl (fun ad H => ⟨h', mh_Kin.rfl, ?_⟩)
  have e0 : ad 1023 = q := H 0 (Nat.le_of_ble_eq_true rfl)
  have e1 : ad 1024 = b0 := H 1 (Nat.le_of_ble_eq_true rfl)
  have e2 : ad 1025 = b1 := H 2 (Nat.le_of_ble_eq_true rfl)
  show mh_lx h' (ad 1023) (ad 1024) (ad 1025)
  rw [e0, e1, e2]
  exact ⟨1, fun _ => 0, f0, f1, f2⟩
theorem mh_bX5 (hp : mh_qX5 h q h') : mh_Bk h q h' 5 0 := by
  obtain ⟨b0, b1, b2, b3, R, f0, f1, f2, f3, f4⟩ := hp
  refine mh_Bk_of R [b0, b1, b2, b3] (List.Perm.refl _) rfl (fun ad H => ⟨h', mh_Kin.rfl, ?_⟩)
  have e0 : ad 1026 = q := H 0 (Nat.le_of_ble_eq_true rfl)
  have e1 : ad 1027 = b0 := H 1 (Nat.le_of_ble_eq_true rfl)
  have e2 : ad 1028 = b1 := H 2 (Nat.le_of_ble_eq_true rfl)
  have e3 : ad 1029 = b2 := H 3 (Nat.le_of_ble_eq_true rfl)
  have e4 : ad 1030 = b3 := H 4 (Nat.le_of_ble_eq_true rfl)
  show mh_nd h' (ad 1026) (ad 1027) (ad 1028) (ad 1029) (ad 1030)
  rw [e0, e1, e2, e3, e4]
  exact ⟨fun _ => 0, fun _ => 0, fun _ => 0, [], f0, f1, f2, mh_co0 f3 f4⟩
theorem mh_bX1 (hp : mh_qX1 h q h') : mh_Bk h q h' 6 0 := by
  obtain ⟨b0, R, f0, f1⟩ := hp
  refine mh_Bk_of R [b0] (List.Perm.refl _) rfl (fun ad H => ⟨h', mh_Kin.rfl, ?_⟩)
  have e0 : ad 1031 = q := H 0 (Nat.le_of_ble_eq_true rfl)
  have e1 : ad 1032 = b0 := H 1 (Nat.le_of_ble_eq_true rfl)
  show ∃ f c, mh_Co h' (ad 1031) (ad 1032) f c
  rw [e0, e1]
  exact ⟨fun _ => 0, [], mh_co0 f0 f1⟩
theorem mh_bX9 (hp : mh_qX9 h q h') : mh_Bk h q h' 9 0 := by
  obtain ⟨b0, b1, b2, b3, b4, b5, R, f0, f1, f2, f3, f4, f5, f6⟩ := hp
  refine mh_Bk_of R [b0, b1, b2, b3, b4, b5] (List.Perm.refl _) rfl (fun ad H => ⟨h', mh_Kin.rfl, ?_⟩)
  have e0 : ad 1258 = q := H 0 (Nat.le_of_ble_eq_true rfl)
  have e1 : ad 1259 = b0 := H 1 (Nat.le_of_ble_eq_true rfl)
  have e2 : ad 1260 = b1 := H 2 (Nat.le_of_ble_eq_true rfl)
  have e3 : ad 1261 = b2 := H 3 (Nat.le_of_ble_eq_true rfl)
  have e4 : ad 1262 = b3 := H 4 (Nat.le_of_ble_eq_true rfl)
  have e5 : ad 1263 = b4 := H 5 (Nat.le_of_ble_eq_true rfl)
  have e6 : ad 1264 = b5 := H 6 (Nat.le_of_ble_eq_true rfl)
  show ∃ b fnd N L rch, mh_Ss h' (ad 1258) (ad 1259) (ad 1260) (ad 1261) (ad 1262) (ad 1263) (ad 1264) b fnd N L rch 0 ∧ 0 ≤ 2000
  rw [e0, e1, e2, e3, e4, e5, e6]
  exact ⟨[], [], fun _ => 0, fun _ => 0, 0, ⟨f0, ⟨_, mh_co0 f1 f2⟩, ⟨_, mh_co0 f3 f4⟩, fun _ => 0, fun _ => 0, f5, f6, fun i _ => ⟨rfl, rfl⟩⟩, Nat.zero_le _⟩
theorem mh_bX8_10 (hp : mh_qX8 h q h') : mh_Bk h q h' 10 0 := by
  obtain ⟨b0, b1, b2, b3, b4, R, f0, f1, f2, f3, f4, f5⟩ := hp
  refine mh_Bk_of R [b0, b1, b2, b3, b4] (List.Perm.refl _) rfl (fun ad H => ⟨h', mh_Kin.rfl, ?_⟩)
  have e0 : ad 1265 = q := H 0 (Nat.le_of_ble_eq_true rfl)
  have e1 : ad 1266 = b0 := H 1 (Nat.le_of_ble_eq_true rfl)
  have e2 : ad 1267 = b1 := H 2 (Nat.le_of_ble_eq_true rfl)
  have e3 : ad 1268 = b2 := H 3 (Nat.le_of_ble_eq_true rfl)
  have e4 : ad 1269 = b3 := H 4 (Nat.le_of_ble_eq_true rfl)
  have e5 : ad 1270 = b4 := H 5 (Nat.le_of_ble_eq_true rfl)
  show ∃ c n, mh_PT h' (ad 1265) (ad 1266) (ad 1267) (ad 1268) (ad 1269) (ad 1270) c n
  rw [e0, e1, e2, e3, e4, e5]
  exact ⟨[], [], fun _ => 0, fun _ => 0, fun _ => 0, f0, mh_pu0 f1 f2 f3 f4, f5, mh_pz0, fun s hs => Or.inr ⟨0, by rw [Nat.le_zero.mp hs]; exact ⟨[], ⟨rfl, fun j hj => absurd hj (Nat.not_lt_zero _)⟩, rfl, rfl⟩, fun K' _ => Nat.zero_le _, rfl, by decide⟩⟩
theorem mh_bX8_11 (hp : mh_qX8 h q h') : mh_Bk h q h' 11 0 := by
  obtain ⟨b0, b1, b2, b3, b4, R, f0, f1, f2, f3, f4, f5⟩ := hp
  refine mh_Bk_of R [b0, b1, b2, b3, b4] (List.Perm.refl _) rfl (fun ad H => ⟨h', mh_Kin.rfl, ?_⟩)
  have e0 : ad 1271 = q := H 0 (Nat.le_of_ble_eq_true rfl)
  have e1 : ad 1272 = b0 := H 1 (Nat.le_of_ble_eq_true rfl)
  have e2 : ad 1273 = b1 := H 2 (Nat.le_of_ble_eq_true rfl)
  have e3 : ad 1274 = b2 := H 3 (Nat.le_of_ble_eq_true rfl)
  have e4 : ad 1275 = b3 := H 4 (Nat.le_of_ble_eq_true rfl)
  have e5 : ad 1276 = b4 := H 5 (Nat.le_of_ble_eq_true rfl)
  show ∃ c n, mh_PT h' (ad 1271) (ad 1272) (ad 1273) (ad 1274) (ad 1275) (ad 1276) c n
  rw [e0, e1, e2, e3, e4, e5]
  exact ⟨[], [], fun _ => 0, fun _ => 0, fun _ => 0, f0, mh_pu0 f1 f2 f3 f4, f5, mh_pz0, fun s hs => Or.inr ⟨0, by rw [Nat.le_zero.mp hs]; exact ⟨[], ⟨rfl, fun j hj => absurd hj (Nat.not_lt_zero _)⟩, rfl, rfl⟩, fun K' _ => Nat.zero_le _, rfl, by decide⟩⟩
theorem mh_bX7_12 (hp : mh_qX7 h q h') : mh_Bk h q h' 12 0 := by
  obtain ⟨b0, b1, b2, R, f0, f1, f2, f3⟩ := hp
  refine mh_Bk_of R [b0, b1, b2] (List.Perm.refl _) rfl (fun ad H => ⟨h', mh_Kin.rfl, ?_⟩)
  have e0 : ad 1277 = q := H 0 (Nat.le_of_ble_eq_true rfl)
  have e1 : ad 1278 = b0 := H 1 (Nat.le_of_ble_eq_true rfl)
  have e2 : ad 1279 = b1 := H 2 (Nat.le_of_ble_eq_true rfl)
  have e3 : ad 1280 = b2 := H 3 (Nat.le_of_ble_eq_true rfl)
  show ∃ f g c n, mh_Pu h' (ad 1277) (ad 1278) (ad 1279) (ad 1280) f g c n
  rw [e0, e1, e2, e3]
  exact ⟨_, _, _, _, mh_pu0 f0 f1 f2 f3⟩
theorem mh_bX7_13 (hp : mh_qX7 h q h') : mh_Bk h q h' 13 0 := by
  obtain ⟨b0, b1, b2, R, f0, f1, f2, f3⟩ := hp
  refine mh_Bk_of R [b0, b1, b2] (List.Perm.refl _) rfl (fun ad H => ⟨h', mh_Kin.rfl, ?_⟩)
  have e0 : ad 1281 = q := H 0 (Nat.le_of_ble_eq_true rfl)
  have e1 : ad 1282 = b0 := H 1 (Nat.le_of_ble_eq_true rfl)
  have e2 : ad 1283 = b1 := H 2 (Nat.le_of_ble_eq_true rfl)
  have e3 : ad 1284 = b2 := H 3 (Nat.le_of_ble_eq_true rfl)
  show ∃ f g c n, mh_Pu h' (ad 1281) (ad 1282) (ad 1283) (ad 1284) f g c n
  rw [e0, e1, e2, e3]
  exact ⟨_, _, _, _, mh_pu0 f0 f1 f2 f3⟩
theorem mh_bX7_14 (hp : mh_qX7 h q h') : mh_Bk h q h' 14 0 := by
  obtain ⟨b0, b1, b2, R, f0, f1, f2, f3⟩ := hp
  refine mh_Bk_of R [b0, b1, b2] (List.Perm.refl _) rfl (fun ad H => ⟨h', mh_Kin.rfl, ?_⟩)
  have e0 : ad 1285 = q := H 0 (Nat.le_of_ble_eq_true rfl)
  have e1 : ad 1286 = b0 := H 1 (Nat.le_of_ble_eq_true rfl)
  have e2 : ad 1287 = b1 := H 2 (Nat.le_of_ble_eq_true rfl)
  have e3 : ad 1288 = b2 := H 3 (Nat.le_of_ble_eq_true rfl)
  show ∃ f g c n, mh_Pu h' (ad 1285) (ad 1286) (ad 1287) (ad 1288) f g c n ∧ mh_hh none c n
  rw [e0, e1, e2, e3]
  exact ⟨_, _, _, _, mh_pu0 f0 f1 f2 f3, trivial⟩
theorem mh_bX10 (hp : mh_qX10 h q h') : mh_Bk h q h' 7 0 := by
  obtain ⟨b0, b1, b2, b3, R, f0, f1, f2, f3, f4⟩ := hp
  refine mh_Bk_of R (b0 :: b1 :: b2 :: (List.range 13).map b3) (List.Perm.refl _) rfl (fun ad H => ?_)
  have e0 : ad 1033 = q := H 0 (Nat.le_of_ble_eq_true rfl)
  have e1 : ad 1034 = b0 := H 1 (Nat.le_of_ble_eq_true rfl)
  have e2 : ad 1035 = b1 := H 2 (Nat.le_of_ble_eq_true rfl)
  have e3 : ad 1036 = b2 := H 3 (Nat.le_of_ble_eq_true rfl)
  have e4 : ∀ j, j < 13 → ad (1037 + j) = b3 j := fun j hj => by
    have t : ad (1033 + (j + 4)) = ((List.range 13).map b3).getD j 0 := H (j + 4) (by show j + 4 < 17; omega)
    rw [mh_gd_map hj, show 1033 + (j + 4) = 1037 + j by omega] at t
    exact t
  refine ⟨_, mh_Kin.rfl.up (g := fun j => some (ad (1037 + j))) f3 (fun j hj => by show (if j < 13 then some (b3 j) else none) = _; rw [if_pos hj, e4 j hj]), ?_⟩
  have n0 : q ≠ b2 := mh_apt f0 f3 (fun z => by cases z)
  have n1 : b0 ≠ b2 := mh_apt f1 f3 (fun z => by cases z)
  have n2 : b1 ≠ b2 := mh_apt f2 f3 (fun z => by cases z)
  refine ⟨[], fun _ => 0, fun _ _ => 0, 0, ?_, ?_, ?_, fun j hj => ?_, mh_ms_nil, Nat.zero_le _, fun r j hr => absurd hr (Nat.not_lt_zero _)⟩
  · rw [e0, e1, e3, mh_up_ne n0]
    exact f0
  · rw [e1, e2]
    exact mh_co0 (by rw [mh_up_ne n1]; exact f1) (by rw [mh_up_ne n2]; exact f2)
  · show mh_up _ _ _ (ad 1036) = _
    rw [e3]
    exact mh_up_eq _ _ _
  · show mh_up _ _ _ (ad (1037 + j)) = _
    rw [e4 j hj, mh_up_ne (mh_apt (f4 j hj) f3 (fun z => by cases z))]
    exact f4 j hj
theorem mh_bX6 (hp : mh_qX6 h q h') : mh_Bk h q h' 8 0 := by
  obtain ⟨b0, b1, b2, b3, b4, b5, b6, b7, R, f0, f1, f2, f3, f4, f5, f6, f7, f8⟩ := hp
  have R : mh_Rg h q h' (b0 :: ((List.range 200).map b1 ++ [b2, b3, b4, b5, b6, b7])) := by
    have t : (((((([] : List Nat) ++ b0 :: (List.range 200).map b1) ++ [b2]) ++ [b3]) ++ [b4]) ++ ((([] ++ [b5]) ++ ([] ++ [b6])) ++ [b7])) = b0 :: ((List.range 200).map b1 ++ [b2, b3, b4, b5, b6, b7]) := by
      simp only [List.nil_append, List.cons_append, List.append_assoc]
    rw [t] at R
    exact R
  refine mh_Bk_of R (b0 :: ([b2, b3, b4, b5, b6, b7] ++ (List.range 200).map b1)) (List.Perm.cons _ List.perm_append_comm) (by simp only [List.length_cons, List.length_append, List.length_map, List.length_range, List.length_nil]; rfl) (fun ad H => ?_)
  have ln : (b0 :: ([b2, b3, b4, b5, b6, b7] ++ (List.range 200).map b1)).length = 207 := by simp only [List.length_cons, List.length_append, List.length_map, List.length_range, List.length_nil]
  rw [ln] at H
  have e0 : ad 1050 = q := H 0 (by omega)
  have e1 : ad 1051 = b0 := H 1 (by omega)
  have e2 : ad 1052 = b2 := H 2 (by omega)
  have e3 : ad 1053 = b3 := H 3 (by omega)
  have e4 : ad 1054 = b4 := H 4 (by omega)
  have e5 : ad 1055 = b5 := H 5 (by omega)
  have e6 : ad 1056 = b6 := H 6 (by omega)
  have e7 : ad 1057 = b7 := H 7 (by omega)
  have e8 : ∀ j, j < 200 → ad (1058 + j) = b1 j := fun j hj => by
    have t : ad (1050 + (j + 8)) = ((List.range 200).map b1).getD j 0 := H (j + 8) (by omega)
    rw [mh_gd_map hj, show 1050 + (j + 8) = 1058 + j by omega] at t
    exact t
  refine ⟨_, mh_Kin.rfl.up (g := fun j => some (ad (1058 + j))) f1 (fun j hj => by show (if j < 200 then some (b1 j) else none) = _; rw [if_pos hj, e8 j hj]), ?_⟩
  have n0 : q ≠ b0 := mh_apt f0 f1 (fun z => by cases z)
  have n2 : b2 ≠ b0 := mh_apt f3 f1 (fun z => by cases z)
  have n3 : b3 ≠ b0 := mh_apt f4 f1 (fun z => by cases z)
  have n4 : b4 ≠ b0 := mh_apt f5 f1 (fun z => by cases z)
  have n5 : b5 ≠ b0 := mh_apt f6 f1 (fun z => by cases z)
  have n6 : b6 ≠ b0 := mh_apt f7 f1 (fun z => by cases z)
  have n7 : b7 ≠ b0 := mh_apt f8 f1 (fun z => by cases z)
  refine ⟨0, fun _ _ => 0, fun _ => 0, fun _ => 0, fun _ => 0, fun _ => 0, [], [], ?_, ?_, fun j hj => ?_, ?_, ?_, ?_⟩
  · rw [e0, e1, e2, e3, e4, mh_up_ne n0]
    exact f0
  · show mh_up _ _ _ (ad 1051) = _
    rw [e1]
    exact mh_up_eq _ _ _
  · show mh_up _ _ _ (ad (1058 + j)) = _
    rw [e8 j hj, mh_up_ne (mh_apt (f2 j hj) f1 (fun z => by cases z))]
    exact f2 j hj
  · rw [e2, mh_up_ne n2]
    exact f3
  · rw [e3, mh_up_ne n3]
    exact f4
  · rw [e4, e5, e6, e7]
    exact mh_pu0 (by rw [mh_up_ne n4]; exact f5) (by rw [mh_up_ne n5]; exact f6) (by rw [mh_up_ne n6]; exact f7) (by rw [mh_up_ne n7]; exact f8)
end MhBlk
