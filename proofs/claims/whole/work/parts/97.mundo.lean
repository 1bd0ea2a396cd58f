section MhModelU
variable {h : mh_H} {bd : Nat → Nat} {σ : mh_Sg} {F : Nat → Int32}
theorem mh_r_jump (hR : mh_RI h bd σ F) {H : mh_H} {F' : Nat → Int32} {x a b : Nat} (o1 : H (bd 0) = some (.inr (12, mh_rf bd F'))) (o2 : ∀ b, b ≠ bd 0 → H b = h b) (o3 : F' 3 = nI x) (o4 : F' 4 = nI a) (o5 : F' 5 = nI b) (o6 : ∀ j, j ≠ 0 → j ≠ 3 → j ≠ 4 → j ≠ 5 → F' j = F j) (hx : x < 21) (ha : a ≤ 20) (hb : b ≤ 20) : ∃ h', f_X12_again_e (bd 0) H = some h' ∧ mh_RI h' bd ((x, a, b), σ.2) F' ∧ mh_frR bd h h' := by
  have hI := hR.1
  obtain ⟨_, _, _, _, ⟨i4, i4'⟩, i5⟩ := hR.2 0 (by omega)
  obtain ⟨G, w1, w2, w3⟩ := hR.2 2 (by omega)
  obtain ⟨g, hg, hw⟩ := hR.2 1 (by omega)
  have kp : ∀ y, y < 99 → y ≠ 0 → H (bd y) = h (bd y) := fun y hy e => o2 _ (hI.ne hy (by omega) e)
  obtain ⟨h', g', y1, y2, y3, y4⟩ := mh_r_again (H := H) hI o1 o3 hx ((kp 2 (by omega) (by omega)).trans w1) ((kp (3 + x) (by omega) (by omega)).trans (w2 _ hx)) ((kp 1 (by omega) (by omega)).trans hg)
  have kq : ∀ y, y < 99 → y ≠ 0 → y ≠ 1 → h' (bd y) = h (bd y) := fun y hy e e2 => (y4 _ (by simp [hI.ne hy (show 1 < 99 by omega) e2])).trans (kp y hy e)
  have o0 : h' (bd 0) = some (.inr (12, mh_rf bd F')) := (y4 _ (by simp [hI.ne (show 0 < 99 by omega) (show 1 < 99 by omega) (by omega)])).trans o1
  refine ⟨h', y1, ⟨hI, fun j hj => ?_⟩, fun b hb => (y4 b (by simp [hb 1 (by omega)])).trans (o2 b (hb 0 (by omega)))⟩
  obtain rfl | rfl | rfl | rfl | rfl | rfl | rfl | rfl | rfl | rfl | rfl : j = 0 ∨ j = 1 ∨ j = 2 ∨ j = 3 ∨ j = 4 ∨ j = 5 ∨ j = 6 ∨ j = 7 ∨ j = 8 ∨ j = 9 ∨ j = 10 := by omega
  · exact ⟨o0, ⟨o3, hx⟩, ⟨o4, ha⟩, ⟨o5, hb⟩, ⟨(o6 23 (by omega) (by omega) (by omega) (by omega)).trans i4, i4'⟩, (o6 15 (by omega) (by omega) (by omega) (by omega)).trans i5⟩
  · exact ⟨g', y2, (w3 x hx).congr y3 (fun p hp => ⟨rfl, rfl, rfl⟩)⟩
  · exact ⟨G, (kq 2 (by omega) (by omega) (by omega)).trans w1, fun j hj => (kq _ (by omega) (by omega) (by omega)).trans (w2 j hj), w3⟩
  · have := mh_rc_keep (h' := h') (show 3 < 11 by omega) (fun k (k1 : 24 ≤ k) (k2 : k < 39) => kq k (by omega) (by omega) (by omega)) (hR.2 3 (by omega))
    obtain ⟨fb, G, a1, a2, a3, a4⟩ := this
    exact ⟨fb, G, a1, a2, a3, by rw [o6 7 (by omega) (by omega) (by omega) (by omega)]; exact a4⟩
  · exact mh_rc_keep (h' := h') (F := F) (σ := σ) (show 4 < 11 by omega) (fun k (k1 : 39 ≤ k) (k2 : k < 42) => kq k (by omega) (by omega) (by omega)) (hR.2 4 (by omega))
  · exact mh_rc_keep (h' := h') (F := F) (σ := σ) (show 5 < 11 by omega) (fun k (k1 : 42 ≤ k) (k2 : k < 56) => kq k (by omega) (by omega) (by omega)) (hR.2 5 (by omega))
  · exact mh_rc_keep (h' := h') (F := F) (σ := σ) (show 6 < 11 by omega) (fun k (k1 : 56 ≤ k) (k2 : k < 57) => kq k (by omega) (by omega) (by omega)) (hR.2 6 (by omega))
  · have := mh_rc_keep (h' := h') (show 7 < 11 by omega) (fun k (k1 : 57 ≤ k) (k2 : k < 59) => kq k (by omega) (by omega) (by omega)) (hR.2 7 (by omega))
    obtain ⟨f1, f2, a1, a2, a3⟩ := this
    exact ⟨f1, f2, a1, a2, by rw [o6 16 (by omega) (by omega) (by omega) (by omega)]; exact a3⟩
  · exact mh_rc_keep (h' := h') (F := F) (σ := σ) (show 8 < 11 by omega) (fun k (k1 : 59 ≤ k) (k2 : k < 65) => kq k (by omega) (by omega) (by omega)) (hR.2 8 (by omega))
  · exact mh_rc_keep (h' := h') (F := F) (σ := σ) (show 9 < 11 by omega) (fun k (k1 : 65 ≤ k) (k2 : k < 93) => kq k (by omega) (by omega) (by omega)) (hR.2 9 (by omega))
  · exact mh_rc_keep (h' := h') (F := F) (σ := σ) (show 10 < 11 by omega) (fun k (k1 : 93 ≤ k) (k2 : k < 99) => kq k (by omega) (by omega) (by omega)) (hR.2 10 (by omega))
theorem mh_r_three {H : mh_H} {F : Nat → Int32} (ho : H (bd 0) = some (.inr (12, mh_rf bd F))) (k : Nat) (v : Int32) (hk : k = 3 ∨ k = 4 ∨ k = 5) : mh_pI H (bd 0) 12 k v = some (mh_up H (bd 0) (.inr (12, mh_rf bd (upd F k v)))) := mh_pI_s _ ho (by
  rcases hk with q | q | q
  all_goals (subst q; exact ⟨show _ < 38 by omega, rfl⟩))
theorem mh_M_undo (hR : mh_RI h bd σ F) (h20 : mh_St20 σ) : ∃ h' F', f_X12_undo_e (bd 0) h = some ((mh_Sundo σ).1, h') ∧ F' 0 = 0 ∧ mh_RI h' bd (mh_Sundo σ).2 F' ∧ mh_frR bd h h' := by
  obtain ⟨p1, R1, f1⟩ := hR.fld (k := 0) 0 (Or.inl rfl)
  obtain ⟨F1, eF⟩ : ∃ F1, F1 = upd F 0 0 := ⟨_, rfl⟩
  obtain ⟨H1, eH⟩ : ∃ H1, H1 = mh_up h (bd 0) (.inr (12, mh_rf bd (upd F 0 0))) := ⟨_, rfl⟩
  rw [← eH] at p1 R1 f1
  rw [← eF] at R1
  have z0 : F1 0 = 0 := by rw [eF]; rfl
  obtain ⟨⟨i1, i1'⟩, ⟨i2, i2'⟩, ⟨i3, i3'⟩, _⟩ := R1.ii
  have h20 : σ.1.2.1 + σ.1.2.2 ≤ 20 := h20
  unfold f_X12_undo_e mh_Sundo
  rw [p1, Option.bind_some, mh_gI_eq (k := 4) R1.ob rfl, Option.bind_some, i2]
  by_cases hz : σ.1.2.1 = 0
  · rw [if_pos ((mh_eqr (b := 0) 0 rfl (by omega) (by omega)).mpr hz), if_pos hz]
    exact ⟨H1, F1, rfl, z0, R1, f1⟩
  · have e4 : nI σ.1.2.1 - (1 : Int32) = nI (σ.1.2.1 - 1) := pk_sub (b := 1) (by omega)
    have e5 : nI σ.1.2.2 + (1 : Int32) = nI (σ.1.2.2 + 1) := nI_add _ 1
    have e3 : mh_irem (nI σ.1.1 + (21 : Int32) - (1 : Int32)) (21 : Int32) = nI ((σ.1.1 + 20) % 21) := by
      have a : nI σ.1.1 + (21 : Int32) = nI (σ.1.1 + 21) := nI_add _ 21
      have b : nI (σ.1.1 + 21) - (1 : Int32) = nI (σ.1.1 + 20) := pk_sub (b := 1) (by omega)
      rw [a, b]
      show nI (σ.1.1 + 20) - nI (σ.1.1 + 20) / nI 21 * nI 21 = _
      rw [pk_rem (by omega) (by omega) (by omega)]
    have q4 := mh_r_three R1.ob 4 (nI (σ.1.2.1 - 1)) (Or.inr (Or.inl rfl))
    have o4 := mh_up_eq H1 (bd 0) (.inr (12, mh_rf bd (upd F1 4 (nI (σ.1.2.1 - 1)))))
    have q5 := mh_r_three o4 5 (nI (σ.1.2.2 + 1)) (Or.inr (Or.inr rfl))
    obtain ⟨H5, eH5⟩ : ∃ H5, H5 = mh_up (mh_up H1 (bd 0) (.inr (12, mh_rf bd (upd F1 4 (nI (σ.1.2.1 - 1)))))) (bd 0) (.inr (12, mh_rf bd (upd (upd F1 4 (nI (σ.1.2.1 - 1))) 5 (nI (σ.1.2.2 + 1))))) := ⟨_, rfl⟩
    have o5 : H5 (bd 0) = some (.inr (12, mh_rf bd (upd (upd F1 4 (nI (σ.1.2.1 - 1))) 5 (nI (σ.1.2.2 + 1))))) := by rw [eH5]; exact mh_up_eq _ _ _
    have q3 := mh_r_three o5 3 (nI ((σ.1.1 + 20) % 21)) (Or.inl rfl)
    obtain ⟨h', y1, y2, y3⟩ := mh_r_jump R1 (H := mh_up H5 (bd 0) (.inr (12, mh_rf bd (upd (upd (upd F1 4 (nI (σ.1.2.1 - 1))) 5 (nI (σ.1.2.2 + 1))) 3 (nI ((σ.1.1 + 20) % 21)))))) (x := (σ.1.1 + 20) % 21) (a := σ.1.2.1 - 1) (b := σ.1.2.2 + 1) (mh_up_eq _ _ _) (fun b hb => by rw [mh_up_ne hb, eH5, mh_up_ne hb, mh_up_ne hb]) (by rfl) (by rfl) (by rfl) (fun j e0 e1 e2 e3 => by rw [pk_un e1, pk_un e3, pk_un e2]) (Nat.mod_lt _ (by omega)) (by omega) (by omega)
    have v5 : upd F1 4 (nI (σ.1.2.1 - 1)) 5 = nI σ.1.2.2 := i3
    have v3 : upd (upd F1 4 (nI (σ.1.2.1 - 1))) 5 (nI (σ.1.2.2 + 1)) 3 = nI σ.1.1 := i1
    rw [if_neg (fun q => hz ((mh_eqr (b := 0) 0 rfl (by omega) (by omega)).mp q)), Option.bind_some, e4, q4, Option.bind_some, mh_gI_eq (k := 5) o4 rfl, Option.bind_some, v5, e5, q5, ← eH5, Option.bind_some, mh_gI_eq (k := 3) o5 rfl, Option.bind_some, mh_nz_eq (by decide), v3, e3, q3, Option.bind_some, mh_cal_eq (mh_up_eq _ _ _), y1, if_neg hz]
    exact ⟨h', upd (upd (upd F1 4 (nI (σ.1.2.1 - 1))) 5 (nI (σ.1.2.2 + 1))) 3 (nI ((σ.1.1 + 20) % 21)), rfl, z0, y2, f1.trans y3⟩
theorem mh_M_redo (hR : mh_RI h bd σ F) (h20 : mh_St20 σ) : ∃ h' F', f_X12_redo_e (bd 0) h = some ((mh_Sredo σ).1, h') ∧ F' 0 = 0 ∧ mh_RI h' bd (mh_Sredo σ).2 F' ∧ mh_frR bd h h' := by
  obtain ⟨p1, R1, f1⟩ := hR.fld (k := 0) 0 (Or.inl rfl)
  obtain ⟨F1, eF⟩ : ∃ F1, F1 = upd F 0 0 := ⟨_, rfl⟩
  obtain ⟨H1, eH⟩ : ∃ H1, H1 = mh_up h (bd 0) (.inr (12, mh_rf bd (upd F 0 0))) := ⟨_, rfl⟩
  rw [← eH] at p1 R1 f1
  rw [← eF] at R1
  have z0 : F1 0 = 0 := by rw [eF]; rfl
  obtain ⟨⟨i1, i1'⟩, ⟨i2, i2'⟩, ⟨i3, i3'⟩, _⟩ := R1.ii
  have h20 : σ.1.2.1 + σ.1.2.2 ≤ 20 := h20
  unfold f_X12_redo_e mh_Sredo
  rw [p1, Option.bind_some, mh_gI_eq (k := 5) R1.ob rfl, Option.bind_some, i3]
  by_cases hz : σ.1.2.2 = 0
  · rw [if_pos ((mh_eqr (b := 0) 0 rfl (by omega) (by omega)).mpr hz), if_pos hz]
    exact ⟨H1, F1, rfl, z0, R1, f1⟩
  · have e5 : nI σ.1.2.2 - (1 : Int32) = nI (σ.1.2.2 - 1) := pk_sub (b := 1) (by omega)
    have e4 : nI σ.1.2.1 + (1 : Int32) = nI (σ.1.2.1 + 1) := nI_add _ 1
    have e3 : mh_irem (nI σ.1.1 + (1 : Int32)) (21 : Int32) = nI ((σ.1.1 + 1) % 21) := by
      show (nI σ.1.1 + 1) - (nI σ.1.1 + 1) / nI 21 * nI 21 = _
      rw [nI_1, pk_rem (by omega) (by omega) (by omega)]
    have q5 := mh_r_three R1.ob 5 (nI (σ.1.2.2 - 1)) (Or.inr (Or.inr rfl))
    have o5 := mh_up_eq H1 (bd 0) (.inr (12, mh_rf bd (upd F1 5 (nI (σ.1.2.2 - 1)))))
    have q4 := mh_r_three o5 4 (nI (σ.1.2.1 + 1)) (Or.inr (Or.inl rfl))
    obtain ⟨H5, eH5⟩ : ∃ H5, H5 = mh_up (mh_up H1 (bd 0) (.inr (12, mh_rf bd (upd F1 5 (nI (σ.1.2.2 - 1)))))) (bd 0) (.inr (12, mh_rf bd (upd (upd F1 5 (nI (σ.1.2.2 - 1))) 4 (nI (σ.1.2.1 + 1))))) := ⟨_, rfl⟩
    have o4 : H5 (bd 0) = some (.inr (12, mh_rf bd (upd (upd F1 5 (nI (σ.1.2.2 - 1))) 4 (nI (σ.1.2.1 + 1))))) := by rw [eH5]; exact mh_up_eq _ _ _
    have q3 := mh_r_three o4 3 (nI ((σ.1.1 + 1) % 21)) (Or.inl rfl)
    obtain ⟨h', y1, y2, y3⟩ := mh_r_jump R1 (H := mh_up H5 (bd 0) (.inr (12, mh_rf bd (upd (upd (upd F1 5 (nI (σ.1.2.2 - 1))) 4 (nI (σ.1.2.1 + 1))) 3 (nI ((σ.1.1 + 1) % 21)))))) (x := (σ.1.1 + 1) % 21) (a := σ.1.2.1 + 1) (b := σ.1.2.2 - 1) (mh_up_eq _ _ _) (fun b hb => by rw [mh_up_ne hb, eH5, mh_up_ne hb, mh_up_ne hb]) (by rfl) (by rfl) (by rfl) (fun j e0 e1 e2 e3 => by rw [pk_un e1, pk_un e2, pk_un e3]) (Nat.mod_lt _ (by omega)) (by omega) (by omega)
    have v4 : upd F1 5 (nI (σ.1.2.2 - 1)) 4 = nI σ.1.2.1 := i2
    have v3 : upd (upd F1 5 (nI (σ.1.2.2 - 1))) 4 (nI (σ.1.2.1 + 1)) 3 = nI σ.1.1 := i1
    rw [if_neg (fun q => hz ((mh_eqr (b := 0) 0 rfl (by omega) (by omega)).mp q)), Option.bind_some, e5, q5, Option.bind_some, mh_gI_eq (k := 4) o5 rfl, Option.bind_some, v4, e4, q4, ← eH5, Option.bind_some, mh_gI_eq (k := 3) o4 rfl, Option.bind_some, mh_nz_eq (by decide), v3, e3, q3, Option.bind_some, mh_cal_eq (mh_up_eq _ _ _), y1, if_neg hz]
    exact ⟨h', upd (upd (upd F1 5 (nI (σ.1.2.2 - 1))) 4 (nI (σ.1.2.1 + 1))) 3 (nI ((σ.1.1 + 1) % 21)), rfl, z0, y2, f1.trans y3⟩
end MhModelU
