/-! the reference as it is made -/
def mh_F0 : Nat → Int32 := fun k => if k = 7 then -1 else 0
theorem mh_Rw0 : mh_Rw (fun _ => 0) (fun _ => []) (fun _ => []) (fun _ => []) := fun p _ => ⟨mh_ms_nil, mh_pz0, rfl, fun i hi => absurd hi (Nat.not_lt_zero _), rfl, fun i hi => absurd hi (Nat.not_lt_zero _)⟩
theorem mh_gd_ap {n j : Nat} {f : Nat → Nat} {t : List Nat} (hj : j < n) : ((List.range n).map f ++ t).getD j 0 = f j := by
  rw [List.getD_eq_getElem?_getD, List.getElem?_append_left (by rw [List.length_map, List.length_range]; exact hj), ← List.getD_eq_getElem?_getD, mh_gd_map hj]
theorem mh_gd_aq {n j : Nat} {f : Nat → Nat} {t : List Nat} : ((List.range n).map f ++ t).getD (j + n) 0 = t.getD j 0 := by
  rw [List.getD_eq_getElem?_getD, List.getElem?_append_right (by rw [List.length_map, List.length_range]; omega), List.length_map, List.length_range, Nat.add_sub_cancel, ← List.getD_eq_getElem?_getD]
set_option maxRecDepth 100000 in
set_option maxHeartbeats 1000000 in
theorem mh_rX12 {h h' : mh_H} {o : Nat} (hp : mh_qX12 h o h') : ∃ bd h2, mh_Kin h' h2 ∧ bd 0 = o ∧ mh_RI h2 bd mh_s0 mh_F0 ∧ (∀ k, k < 99 → bd k = o ∨ h (bd k) = none) ∧ (∀ k, k < 99 → h2 (bd k) ≠ none) ∧ ∀ b, b ≠ o → h b ≠ none → h2 b = h b := by
  obtain ⟨b0, b1, b2, b3, b4, b5, b6, b7, b8, b9, b10, b11, b12, b13, b14, b15, b16, b17, b18, b19, b20, b21, b22, b23, b24, b25, b26, b27, b28, b29, R, fo, f0, f1, f2, f3, f4, f5, f6, f7, f8, f9, f10, f11, f12, f13, f14, f15, f16, f17, f18, f19, f20, f21, f22, f23, f24, f25, f26, f27, f28, f29⟩ := hp
  obtain ⟨L5, eL5⟩ : ∃ x, x = [b24, b25, b26, b27, b28, b29] := ⟨_, rfl⟩
  obtain ⟨L4, eL4⟩ : ∃ x, x = b22 :: ((List.range 13).map b23 ++ L5) := ⟨_, rfl⟩
  obtain ⟨L3, eL3⟩ : ∃ x, x = b11 :: b12 :: b13 :: b14 :: b15 :: b16 :: b17 :: b18 :: b19 :: b20 :: ((List.range 13).map b21 ++ L4) := ⟨_, rfl⟩
  obtain ⟨L2, eL2⟩ : ∃ x, x = b6 :: b7 :: b8 :: b9 :: ((List.range 13).map b10 ++ L3) := ⟨_, rfl⟩
  obtain ⟨L1, eL1⟩ : ∃ x, x = b3 :: b4 :: ((List.range 13).map b5 ++ L2) := ⟨_, rfl⟩
  obtain ⟨r, er⟩ : ∃ x, x = b0 :: b1 :: ((List.range 21).map b2 ++ L1) := ⟨_, rfl⟩
  have R : mh_Rg h o h' r := by
    rw [er, eL1, eL2, eL3, eL4, eL5]
    simp only [List.nil_append, List.cons_append, List.append_assoc] at R
    exact R
  have nd : (o :: r).Nodup := List.nodup_cons.mpr ⟨R.no, R.1⟩
  have ln : (o :: r).length = 99 := by
    rw [er, eL1, eL2, eL3, eL4, eL5]
    simp only [List.length_cons, List.length_append, List.length_map, List.length_range, List.length_nil]
  obtain ⟨bd, ebd⟩ : ∃ bd : Nat → Nat, bd = fun i => (o :: r).getD i 0 := ⟨_, rfl⟩
  have hI : mh_Inj bd 99 := by rw [ebd, ← ln]; exact mh_gd_inj nd
  have d0 : ∀ j, bd j = (o :: r).getD j 0 := fun j => by rw [ebd]
  have e0 : bd 0 = o := by rw [d0]; rfl
  have e1 : bd 1 = b0 := by rw [d0, er]; rfl
  have e2 : bd 2 = b1 := by rw [d0, er]; rfl
  have x1 : ∀ j, bd (j + 3) = ((List.range 21).map b2 ++ L1).getD j 0 := fun j => by rw [d0, er]; rfl
  have e3 : ∀ j, j < 21 → bd (3 + j) = b2 j := fun j hj => by rw [Nat.add_comm, x1, mh_gd_ap hj]
  have y1 : ∀ j, bd (j + 24) = L1.getD j 0 := fun j => by rw [show j + 24 = (j + 21) + 3 by omega, x1, mh_gd_aq]
  have e24 : bd 24 = b3 := (y1 0).trans (by rw [eL1]; rfl)
  have e25 : bd 25 = b4 := (y1 1).trans (by rw [eL1]; rfl)
  have x2 : ∀ j, bd (j + 26) = ((List.range 13).map b5 ++ L2).getD j 0 := fun j => by rw [show j + 26 = (j + 2) + 24 by omega, y1, eL1]; rfl
  have e26 : ∀ j, j < 13 → bd (26 + j) = b5 j := fun j hj => by rw [Nat.add_comm, x2, mh_gd_ap hj]
  have y2 : ∀ j, bd (j + 39) = L2.getD j 0 := fun j => by rw [show j + 39 = (j + 13) + 26 by omega, x2, mh_gd_aq]
  have e39 : bd 39 = b6 := (y2 0).trans (by rw [eL2]; rfl)
  have e40 : bd 40 = b7 := (y2 1).trans (by rw [eL2]; rfl)
  have e41 : bd 41 = b8 := (y2 2).trans (by rw [eL2]; rfl)
  have e42 : bd 42 = b9 := (y2 3).trans (by rw [eL2]; rfl)
  have x3 : ∀ j, bd (j + 43) = ((List.range 13).map b10 ++ L3).getD j 0 := fun j => by rw [show j + 43 = (j + 4) + 39 by omega, y2, eL2]; rfl
  have e43 : ∀ j, j < 13 → bd (43 + j) = b10 j := fun j hj => by rw [Nat.add_comm, x3, mh_gd_ap hj]
  have y3 : ∀ j, bd (j + 56) = L3.getD j 0 := fun j => by rw [show j + 56 = (j + 13) + 43 by omega, x3, mh_gd_aq]
  have e56 : bd 56 = b11 := (y3 0).trans (by rw [eL3]; rfl)
  have e57 : bd 57 = b12 := (y3 1).trans (by rw [eL3]; rfl)
  have e58 : bd 58 = b13 := (y3 2).trans (by rw [eL3]; rfl)
  have e59 : bd 59 = b14 := (y3 3).trans (by rw [eL3]; rfl)
  have e60 : bd 60 = b15 := (y3 4).trans (by rw [eL3]; rfl)
  have e61 : bd 61 = b16 := (y3 5).trans (by rw [eL3]; rfl)
  have e62 : bd 62 = b17 := (y3 6).trans (by rw [eL3]; rfl)
  have e63 : bd 63 = b18 := (y3 7).trans (by rw [eL3]; rfl)
  have e64 : bd 64 = b19 := (y3 8).trans (by rw [eL3]; rfl)
  have e65 : bd 65 = b20 := (y3 9).trans (by rw [eL3]; rfl)
  have x4 : ∀ j, bd (j + 66) = ((List.range 13).map b21 ++ L4).getD j 0 := fun j => by rw [show j + 66 = (j + 10) + 56 by omega, y3, eL3]; rfl
  have e66 : ∀ j, j < 13 → bd (66 + j) = b21 j := fun j hj => by rw [Nat.add_comm, x4, mh_gd_ap hj]
  have y4 : ∀ j, bd (j + 79) = L4.getD j 0 := fun j => by rw [show j + 79 = (j + 13) + 66 by omega, x4, mh_gd_aq]
  have e79 : bd 79 = b22 := (y4 0).trans (by rw [eL4]; rfl)
  have x5 : ∀ j, bd (j + 80) = ((List.range 13).map b23 ++ L5).getD j 0 := fun j => by rw [show j + 80 = (j + 1) + 79 by omega, y4, eL4]; rfl
  have e80 : ∀ j, j < 13 → bd (80 + j) = b23 j := fun j hj => by rw [Nat.add_comm, x5, mh_gd_ap hj]
  have y5 : ∀ j, bd (j + 93) = L5.getD j 0 := fun j => by rw [show j + 93 = (j + 13) + 80 by omega, x5, mh_gd_aq]
  have e93 : bd 93 = b24 := (y5 0).trans (by rw [eL5]; rfl)
  have e94 : bd 94 = b25 := (y5 1).trans (by rw [eL5]; rfl)
  have e95 : bd 95 = b26 := (y5 2).trans (by rw [eL5]; rfl)
  have e96 : bd 96 = b27 := (y5 3).trans (by rw [eL5]; rfl)
  have e97 : bd 97 = b28 := (y5 4).trans (by rw [eL5]; rfl)
  have e98 : bd 98 = b29 := (y5 5).trans (by rw [eL5]; rfl)
  clear eL1 eL2 eL3 eL4 eL5 er
  have fr : ∀ k, k < 99 → bd k = o ∨ h (bd k) = none := fun k hk => by
    have hm : (o :: r).getD k 0 ∈ o :: r := mh_get_mem (by rw [ln]; exact hk)
    rw [ebd]
    show (o :: r).getD k 0 = o ∨ h ((o :: r).getD k 0) = none
    rcases List.mem_cons.mp hm with z | z
    · exact Or.inl z
    · exact Or.inr (R.2.1 _ z).1
  have nz : ∀ k, k < 99 → h' (bd k) ≠ none := fun k hk => by
    have hm : (o :: r).getD k 0 ∈ o :: r := mh_get_mem (by rw [ln]; exact hk)
    rw [ebd]
    show h' ((o :: r).getD k 0) ≠ none
    rcases List.mem_cons.mp hm with z | z
    · rw [z]; exact R.2.2.2.2
    · exact (R.2.1 _ z).2
  obtain ⟨h2, eh⟩ : ∃ x : mh_H, x = (mh_up (mh_up (mh_up (mh_up (mh_up h' (bd 2) (.inl (5, 21, .inr (.inr (.inr (.inr (fun j => some (bd (3 + j))))))))) (bd 25) (.inl (5, 13, .inr (.inr (.inr (.inr (fun j => some (bd (26 + j))))))))) (bd 42) (.inl (6, 13, .inr (.inr (.inr (.inr (fun j => some (bd (43 + j))))))))) (bd 65) (.inl (5, 13, .inr (.inr (.inr (.inr (fun j => some (bd (66 + j))))))))) (bd 79) (.inl (5, 13, .inr (.inr (.inr (.inr (fun j => some (bd (80 + j))))))))) := ⟨_, rfl⟩
  have kin : mh_Kin h' h2 := by
    rw [eh]
    exact (((((mh_Kin.rfl.up (a := bd 2) (g := fun j => some (bd (3 + j))) (by rw [e2]; exact f1) (fun j hj => by show (if j < 21 then some (b2 j) else none) = _; rw [if_pos hj, e3 j hj])).up (a := bd 25) (g := fun j => some (bd (26 + j))) (by rw [e25]; exact f4) (fun j hj => by show (if j < 13 then some (b5 j) else none) = _; rw [if_pos hj, e26 j hj])).up (a := bd 42) (g := fun j => some (bd (43 + j))) (by rw [e42]; exact f9) (fun j hj => by show (if j < 13 then some (b10 j) else none) = _; rw [if_pos hj, e43 j hj])).up (a := bd 65) (g := fun j => some (bd (66 + j))) (by rw [e65]; exact f20) (fun j hj => by show (if j < 13 then some (b21 j) else none) = _; rw [if_pos hj, e66 j hj])).up (a := bd 79) (g := fun j => some (bd (80 + j))) (by rw [e79]; exact f22) (fun j hj => by show (if j < 13 then some (b23 j) else none) = _; rw [if_pos hj, e80 j hj]))
  have kp : ∀ a, a ≠ bd 2 → a ≠ bd 25 → a ≠ bd 42 → a ≠ bd 65 → a ≠ bd 79 → h2 a = h' a := fun a n1 n2 n3 n4 n5 => by
    rw [eh, mh_up_ne n5, mh_up_ne n4, mh_up_ne n3, mh_up_ne n2, mh_up_ne n1]
  have kb : ∀ i, i < 99 → i ≠ 2 → i ≠ 25 → i ≠ 42 → i ≠ 65 → i ≠ 79 → h2 (bd i) = h' (bd i) := fun i hi n1 n2 n3 n4 n5 => kp _ (hI.ne hi (by omega) n1) (hI.ne hi (by omega) n2) (hI.ne hi (by omega) n3) (hI.ne hi (by omega) n4) (hI.ne hi (by omega) n5)
  have g2 : h2 (bd 2) = some (.inl (5, 21, .inr (.inr (.inr (.inr (fun j => some (bd (3 + j)))))))) := by
    rw [eh, mh_up_ne (hI.ne (i := 2) (j := 79) (by omega) (by omega) (by omega)), mh_up_ne (hI.ne (i := 2) (j := 65) (by omega) (by omega) (by omega)), mh_up_ne (hI.ne (i := 2) (j := 42) (by omega) (by omega) (by omega)), mh_up_ne (hI.ne (i := 2) (j := 25) (by omega) (by omega) (by omega))]
    exact mh_up_eq _ _ _
  have g25 : h2 (bd 25) = some (.inl (5, 13, .inr (.inr (.inr (.inr (fun j => some (bd (26 + j)))))))) := by
    rw [eh, mh_up_ne (hI.ne (i := 25) (j := 79) (by omega) (by omega) (by omega)), mh_up_ne (hI.ne (i := 25) (j := 65) (by omega) (by omega) (by omega)), mh_up_ne (hI.ne (i := 25) (j := 42) (by omega) (by omega) (by omega))]
    exact mh_up_eq _ _ _
  have g42 : h2 (bd 42) = some (.inl (6, 13, .inr (.inr (.inr (.inr (fun j => some (bd (43 + j)))))))) := by
    rw [eh, mh_up_ne (hI.ne (i := 42) (j := 79) (by omega) (by omega) (by omega)), mh_up_ne (hI.ne (i := 42) (j := 65) (by omega) (by omega) (by omega))]
    exact mh_up_eq _ _ _
  have g65 : h2 (bd 65) = some (.inl (5, 13, .inr (.inr (.inr (.inr (fun j => some (bd (66 + j)))))))) := by
    rw [eh, mh_up_ne (hI.ne (i := 65) (j := 79) (by omega) (by omega) (by omega))]
    exact mh_up_eq _ _ _
  have g79 : h2 (bd 79) = some (.inl (5, 13, .inr (.inr (.inr (.inr (fun j => some (bd (80 + j)))))))) := by
    rw [eh]
    exact mh_up_eq _ _ _
  have g1 : h2 (bd 1) = some (mh_Ni 304) := (kb 1 (by omega) (by omega) (by omega) (by omega) (by omega) (by omega)).trans (by rw [e1]; exact f0)
  have g24 : h2 (bd 24) = some (mh_Ni 12) := (kb 24 (by omega) (by omega) (by omega) (by omega) (by omega) (by omega)).trans (by rw [e24]; exact f3)
  have g39 : h2 (bd 39) = some (mh_Nz 200001) := (kb 39 (by omega) (by omega) (by omega) (by omega) (by omega) (by omega)).trans (by rw [e39]; exact f6)
  have g40 : h2 (bd 40) = some (mh_Nz 200001) := (kb 40 (by omega) (by omega) (by omega) (by omega) (by omega) (by omega)).trans (by rw [e40]; exact f7)
  have g41 : h2 (bd 41) = some (mh_Nz 200001) := (kb 41 (by omega) (by omega) (by omega) (by omega) (by omega) (by omega)).trans (by rw [e41]; exact f8)
  have g56 : h2 (bd 56) = some (mh_Ni 24) := (kb 56 (by omega) (by omega) (by omega) (by omega) (by omega) (by omega)).trans (by rw [e56]; exact f11)
  have g57 : h2 (bd 57) = some (mh_Ni 12) := (kb 57 (by omega) (by omega) (by omega) (by omega) (by omega) (by omega)).trans (by rw [e57]; exact f12)
  have g58 : h2 (bd 58) = some (mh_Ni 12) := (kb 58 (by omega) (by omega) (by omega) (by omega) (by omega) (by omega)).trans (by rw [e58]; exact f13)
  have g59 : h2 (bd 59) = some (mh_Ni 2400) := (kb 59 (by omega) (by omega) (by omega) (by omega) (by omega) (by omega)).trans (by rw [e59]; exact f14)
  have g60 : h2 (bd 60) = some (mh_Ni 12) := (kb 60 (by omega) (by omega) (by omega) (by omega) (by omega) (by omega)).trans (by rw [e60]; exact f15)
  have g61 : h2 (bd 61) = some (mh_Ni 200) := (kb 61 (by omega) (by omega) (by omega) (by omega) (by omega) (by omega)).trans (by rw [e61]; exact f16)
  have g62 : h2 (bd 62) = some (mh_Ni 6) := (kb 62 (by omega) (by omega) (by omega) (by omega) (by omega) (by omega)).trans (by rw [e62]; exact f17)
  have g63 : h2 (bd 63) = some (mh_Ni 6) := (kb 63 (by omega) (by omega) (by omega) (by omega) (by omega) (by omega)).trans (by rw [e63]; exact f18)
  have g64 : h2 (bd 64) = some (mh_Ni 3902) := (kb 64 (by omega) (by omega) (by omega) (by omega) (by omega) (by omega)).trans (by rw [e64]; exact f19)
  have g93 : h2 (bd 93) = some (mh_Ni 100301) := (kb 93 (by omega) (by omega) (by omega) (by omega) (by omega) (by omega)).trans (by rw [e93]; exact f24)
  have g94 : h2 (bd 94) = some (mh_Nz 301) := (kb 94 (by omega) (by omega) (by omega) (by omega) (by omega) (by omega)).trans (by rw [e94]; exact f25)
  have g95 : h2 (bd 95) = some (mh_Ni 12) := (kb 95 (by omega) (by omega) (by omega) (by omega) (by omega) (by omega)).trans (by rw [e95]; exact f26)
  have g96 : h2 (bd 96) = some (mh_Ni 12) := (kb 96 (by omega) (by omega) (by omega) (by omega) (by omega) (by omega)).trans (by rw [e96]; exact f27)
  have g97 : h2 (bd 97) = some (mh_Ni 12) := (kb 97 (by omega) (by omega) (by omega) (by omega) (by omega) (by omega)).trans (by rw [e97]; exact f28)
  have g98 : h2 (bd 98) = some (mh_Ni 50) := (kb 98 (by omega) (by omega) (by omega) (by omega) (by omega) (by omega)).trans (by rw [e98]; exact f29)
  have g3 : ∀ j, j < 21 → h2 (bd (3 + j)) = some (.inl (0, (304, .inl (fun _ => 0)))) := fun j hj => (kb _ (by omega) (by omega) (by omega) (by omega) (by omega) (by omega)).trans (by rw [e3 j hj]; exact f2 j hj)
  have g26 : ∀ j, j < 13 → h2 (bd (26 + j)) = some (.inl (0, (100301, .inl (fun _ => 0)))) := fun j hj => (kb _ (by omega) (by omega) (by omega) (by omega) (by omega) (by omega)).trans (by rw [e26 j hj]; exact f5 j hj)
  have g43 : ∀ j, j < 13 → h2 (bd (43 + j)) = some (.inl (1, (3001, .inr (.inl (fun _ => 0))))) := fun j hj => (kb _ (by omega) (by omega) (by omega) (by omega) (by omega) (by omega)).trans (by rw [e43 j hj]; exact f10 j hj)
  have g66 : ∀ j, j < 13 → h2 (bd (66 + j)) = some (.inl (0, (20001, .inl (fun _ => 0)))) := fun j hj => (kb _ (by omega) (by omega) (by omega) (by omega) (by omega) (by omega)).trans (by rw [e66 j hj]; exact f21 j hj)
  have g80 : ∀ j, j < 13 → h2 (bd (80 + j)) = some (.inl (0, (20001, .inl (fun _ => 0)))) := fun j hj => (kb _ (by omega) (by omega) (by omega) (by omega) (by omega) (by omega)).trans (by rw [e80 j hj]; exact f23 j hj)
  have rf : mh_rf bd mh_F0 = [.int 0, .ref b0, .ref b1, .int 0, .int 0, .int 0, .ref b3, .int (-1), .ref b4, .ref b6, .ref b7, .ref b8, .ref b9, .ref b11, .int 0, .int 0, .int 0, .ref b12, .ref b13, .ref b14, .ref b15, .ref b16, .int 0, .int 0, .ref b17, .ref b18, .int 0, .int 0, .int 0, .ref b19, .ref b20, .ref b22, .ref b24, .ref b25, .ref b26, .ref b27, .ref b28, .ref b29] := by
    unfold mh_rf
    rw [e1, e2, e24, e25, e39, e40, e41, e42, e56, e57, e58, e59, e60, e61, e62, e63, e64, e65, e79, e93, e94, e95, e96, e97, e98]
    rfl
  have g0 : h2 (bd 0) = some (.inr (12, mh_rf bd mh_F0)) := (kb 0 (by omega) (by omega) (by omega) (by omega) (by omega) (by omega)).trans (by rw [rf, e0]; exact fo)
  refine ⟨bd, h2, kin, e0, ⟨hI, fun i hi => ?_⟩, fr, fun k hk => kin.nn (nz k hk), fun b hb1 hb2 => ?_⟩
  · obtain rfl | rfl | rfl | rfl | rfl | rfl | rfl | rfl | rfl | rfl | rfl : i = 0 ∨ i = 1 ∨ i = 2 ∨ i = 3 ∨ i = 4 ∨ i = 5 ∨ i = 6 ∨ i = 7 ∨ i = 8 ∨ i = 9 ∨ i = 10 := by omega
    · exact ⟨g0, ⟨rfl, by decide⟩, ⟨rfl, by decide⟩, ⟨rfl, by decide⟩, ⟨rfl, by decide⟩, rfl⟩
    · exact ⟨fun _ => 0, g1, mh_Rw0⟩
    · exact ⟨fun _ _ => 0, g2, g3, fun j _ => mh_Rw0⟩
    · exact ⟨fun _ => 0, fun _ _ => 0, g24, g25, g26, Or.inl rfl⟩
    · exact ⟨_, _, _, g39, g40, g41⟩
    · exact ⟨fun _ _ => 0, g42, g43⟩
    · exact ⟨_, g56⟩
    · exact ⟨_, _, g57, g58, trivial⟩
    · exact ⟨_, _, _, _, _, _, g59, g60, g61, g62, g63, g64⟩
    · exact ⟨fun _ _ => 0, fun _ _ => 0, g65, g66, g79, g80⟩
    · exact ⟨_, _, _, _, _, _, g93, rfl, g94, g95, g96, g97, g98⟩
  · have nb : ∀ k, k < 99 → b ≠ bd k := fun k hk z => by
      rcases fr k hk with w | w
      · exact hb1 (z.trans w)
      · exact hb2 (by rw [z]; exact w)
    rw [kp b (nb 2 (by omega)) (nb 25 (by omega)) (nb 42 (by omega)) (nb 65 (by omega)) (nb 79 (by omega))]
    exact R.kept hb1 hb2
