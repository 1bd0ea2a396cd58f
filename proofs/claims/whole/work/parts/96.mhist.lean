section MhModelH
variable {h : mh_H} {bd : Nat → Nat} {σ : mh_Sg} {F : Nat → Int32}
theorem mh_r_store {H : mh_H} {g0 g : Nat → Int32} {x : Nat} (hI : mh_Inj bd 99) (ho : H (bd 0) = some (.inr (12, mh_rf bd F))) (h3 : F 3 = nI x) (hx : x < 21) (hO : mh_Oi H (bd 2) (fun j => bd (3 + j)) 21) (hrow : H (bd (3 + x)) = some (.inl (0, 304, .inl g0))) (hnow : H (bd 1) = some (.inl (0, 304, .inl g))) : ∃ h' g', f_X12_changed_b39 mh_fu (bd 0) 0 H = some h' ∧ h' (bd (3 + x)) = some (.inl (0, 304, .inl g')) ∧ (∀ i, i < 304 → g' i = g i) ∧ mh_fr [bd (3 + x)] H h' := by
  have key := mh_wh (fun n (s : Nat × mh_H) => f_X12_changed_b39 n (bd 0) (nI s.1) s.2) (fun (r : mh_H) => some r) (fun s => s.1 ≤ 304 ∧ mh_fr [bd (3 + x)] H s.2 ∧ ∃ g', s.2 (bd (3 + x)) = some (.inl (0, 304, .inl g')) ∧ ∀ i, i < s.1 → g' i = g i) (fun s => 304 - s.1) (fun r => mh_fr [bd (3 + x)] H r ∧ ∃ g', r (bd (3 + x)) = some (.inl (0, 304, .inl g')) ∧ ∀ i, i < 304 → g' i = g i)
    (fun n s hs => by
      obtain ⟨k, hh⟩ := s
      obtain ⟨q1, q2, g', q3, q4⟩ := hs
      have q1 : k ≤ 304 := q1
      have q2 : mh_fr [bd (3 + x)] H hh := q2
      have q3 : hh (bd (3 + x)) = some (.inl (0, 304, .inl g')) := q3
      have q4 : ∀ i, i < k → g' i = g i := q4
      show (∃ s', _ ∧ _ ∧ f_X12_changed_b39 (n + 1) (bd 0) (nI k) hh = _) ∨ ∃ r, _ ∧ f_X12_changed_b39 (n + 1) (bd 0) (nI k) hh = _
      have kp : ∀ y, y < 3 → hh (bd y) = H (bd y) := fun y hy => q2 _ (by simp [hI.ne (show y < 99 by omega) (show 3 + x < 99 by omega) (by omega)])
      have ho' := (kp 0 (by omega)).trans ho
      have hO' : mh_Oi hh (bd 2) (fun j => bd (3 + j)) 21 := (kp 2 (by omega)).trans hO
      have hn' := (kp 1 (by omega)).trans hnow
      by_cases hlt : k < 304
      · left
        refine ⟨(k + 1, mh_up hh (bd (3 + x)) (.inl (0, 304, .inl (upd g' k (g k))))), ⟨hlt, q2.trans (mh_fr.up List.mem_cons_self), upd g' k (g k), mh_up_eq _ _ _, fun i hi => ?_⟩, by show 304 - (k + 1) < 304 - k; omega, ?_⟩
        · by_cases e : i = k
          · rw [e, pk_us]
          · rw [pk_un e]
            exact q4 i (by have : i < k + 1 := hi; omega)
        · rw [f_X12_changed_b39, if_neg (fun q => absurd ((mh_lel (a := 304) 304 rfl (by omega) (by omega)).mp q) (by omega)), mh_gR_eq (k := 2) ho' rfl, Option.bind_some, mh_gI_eq (k := 3) ho' rfl, Option.bind_some, h3, mh_aR_eq hO' hx (by omega) rfl, Option.bind_some, mh_gR_eq (k := 1) ho' rfl, Option.bind_some, mh_aI_eq hn' hlt (by omega), Option.bind_some, mh_sI_eq q3 hlt (by omega), Option.bind_some, mh_nm_eq, mh_inc]
      · right
        have e : k = 304 := by omega
        subst e
        exact ⟨hh, ⟨q2, g', q3, q4⟩, by rw [f_X12_changed_b39, if_pos ((mh_lel (a := 304) 304 rfl (by omega) (by omega)).mpr (by omega))]; rfl⟩)
    304 mh_fu (0, H) (Nat.le_refl _) ⟨Nat.zero_le _, mh_fr.rfl, g0, hrow, fun i hi => absurd hi (Nat.not_lt_zero i)⟩ (mh_fuel _ (by omega))
  obtain ⟨r, ⟨z1, g', z2, z3⟩, z4⟩ := key
  exact ⟨r, g', z4, z2, z3, z1⟩
theorem mh_r_again {H : mh_H} {g0 g : Nat → Int32} {x : Nat} (hI : mh_Inj bd 99) (ho : H (bd 0) = some (.inr (12, mh_rf bd F))) (h3 : F 3 = nI x) (hx : x < 21) (hO : mh_Oi H (bd 2) (fun j => bd (3 + j)) 21) (hrow : H (bd (3 + x)) = some (.inl (0, 304, .inl g))) (hnow : H (bd 1) = some (.inl (0, 304, .inl g0))) : ∃ h' g', f_X12_again_e (bd 0) H = some h' ∧ h' (bd 1) = some (.inl (0, 304, .inl g')) ∧ (∀ i, i < 304 → g' i = g i) ∧ mh_fr [bd 1] H h' := by
  have key := mh_wh (fun n (s : Nat × mh_H) => f_X12_again_b2 n (bd 0) (nI s.1) s.2) (fun (r : mh_H) => some r) (fun s => s.1 ≤ 304 ∧ mh_fr [bd 1] H s.2 ∧ ∃ g', s.2 (bd 1) = some (.inl (0, 304, .inl g')) ∧ ∀ i, i < s.1 → g' i = g i) (fun s => 304 - s.1) (fun r => mh_fr [bd 1] H r ∧ ∃ g', r (bd 1) = some (.inl (0, 304, .inl g')) ∧ ∀ i, i < 304 → g' i = g i)
    (fun n s hs => by
      obtain ⟨k, hh⟩ := s
      obtain ⟨q1, q2, g', q3, q4⟩ := hs
      have q1 : k ≤ 304 := q1
      have q2 : mh_fr [bd 1] H hh := q2
      have q3 : hh (bd 1) = some (.inl (0, 304, .inl g')) := q3
      have q4 : ∀ i, i < k → g' i = g i := q4
      show (∃ s', _ ∧ _ ∧ f_X12_again_b2 (n + 1) (bd 0) (nI k) hh = _) ∨ ∃ r, _ ∧ f_X12_again_b2 (n + 1) (bd 0) (nI k) hh = _
      have kp : ∀ y, y < 99 → y ≠ 1 → hh (bd y) = H (bd y) := fun y hy e => q2 _ (by simp [hI.ne hy (show 1 < 99 by omega) e])
      have ho' := (kp 0 (by omega) (by omega)).trans ho
      have hO' : mh_Oi hh (bd 2) (fun j => bd (3 + j)) 21 := (kp 2 (by omega) (by omega)).trans hO
      have hr' := (kp (3 + x) (by omega) (by omega)).trans hrow
      by_cases hlt : k < 304
      · left
        refine ⟨(k + 1, mh_up hh (bd 1) (.inl (0, 304, .inl (upd g' k (g k))))), ⟨hlt, q2.trans (mh_fr.up List.mem_cons_self), upd g' k (g k), mh_up_eq _ _ _, fun i hi => ?_⟩, by show 304 - (k + 1) < 304 - k; omega, ?_⟩
        · by_cases e : i = k
          · rw [e, pk_us]
          · rw [pk_un e]
            exact q4 i (by have : i < k + 1 := hi; omega)
        · rw [f_X12_again_b2, if_neg (fun q => absurd ((mh_lel (a := 304) 304 rfl (by omega) (by omega)).mp q) (by omega)), mh_gR_eq (k := 1) ho' rfl, Option.bind_some, mh_gR_eq (k := 2) ho' rfl, Option.bind_some, mh_gI_eq (k := 3) ho' rfl, Option.bind_some, h3, mh_aR_eq hO' hx (by omega) rfl, Option.bind_some, mh_aI_eq hr' hlt (by omega), Option.bind_some, mh_sI_eq q3 hlt (by omega), Option.bind_some, mh_nm_eq, mh_inc]
      · right
        have e : k = 304 := by omega
        subst e
        exact ⟨hh, ⟨q2, g', q3, q4⟩, by rw [f_X12_again_b2, if_pos ((mh_lel (a := 304) 304 rfl (by omega) (by omega)).mpr (by omega))]; rfl⟩)
    304 mh_fu (0, H) (Nat.le_refl _) ⟨Nat.zero_le _, mh_fr.rfl, g0, hnow, fun i hi => absurd hi (Nat.not_lt_zero i)⟩ (mh_fuel _ (by omega))
  obtain ⟨r, ⟨z1, g', z2, z3⟩, z4⟩ := key
  refine ⟨r, g', ?_, z2, z3, z1⟩
  unfold f_X12_again_e
  rw [mh_nm_eq]
  exact z4
theorem mh_Rw.congr {g g' : Nat → Int32} {m c n m' c' n' : Nat → List Nat} (hw : mh_Rw g m c n) (hg : ∀ i, i < 304 → g' i = g i) (e : ∀ p, p < 8 → m' p = m p ∧ c' p = c p ∧ n' p = n p) : mh_Rw g' m' c' n' := fun p hp => by
  obtain ⟨a1, a2, a3, a4, a5, a6⟩ := hw p hp
  obtain ⟨e1, e2, e3⟩ := e p hp
  have l1 := a1.1.1
  have l2 := a2.1.1.1
  rw [e1, e2, e3]
  exact ⟨a1, a2, (hg _ (by omega)).trans a3, fun i hi => (hg _ (by omega)).trans (a4 i hi), (hg _ (by omega)).trans a5, fun i hi => ⟨(hg _ (by omega)).trans (a6 i hi).1, (hg _ (by omega)).trans (a6 i hi).2⟩⟩
/-- all but the row of now -/
def mh_RM (h : mh_H) (bd : Nat → Nat) (σ : mh_Sg) (F : Nat → Int32) (m c n : Nat → List Nat) : Prop := mh_Inj bd 99 ∧ (∀ i, i < 11 → i ≠ 1 → mh_rc bd σ F i h) ∧ ∃ g, h (bd 1) = some (.inl (0, 304, .inl g)) ∧ mh_Rw g m c n
theorem mh_r_changed {m c n : Nat → List Nat} {σ' : mh_Sg} (hM : mh_RM h bd σ F m c n) (s1 : σ'.1 = (mh_nx σ, min (σ.1.2.1 + 1) 20, 0)) (s2 : σ'.2.2 = σ.2.2) (s3 : ∀ p, p < 8 → σ'.2.1.1 (mh_nx σ * 8 + p) = m p ∧ σ'.2.1.2.1 (mh_nx σ * 8 + p) = c p ∧ σ'.2.1.2.2 (mh_nx σ * 8 + p) = n p) (s4 : ∀ j, j < 21 → j ≠ mh_nx σ → ∀ p, p < 8 → σ'.2.1.1 (j * 8 + p) = σ.2.1.1 (j * 8 + p) ∧ σ'.2.1.2.1 (j * 8 + p) = σ.2.1.2.1 (j * 8 + p) ∧ σ'.2.1.2.2 (j * 8 + p) = σ.2.1.2.2 (j * 8 + p)) : ∃ h' F', f_X12_changed_e (bd 0) h = some h' ∧ mh_RI h' bd σ' F' ∧ (∀ j, j ≠ 3 → j ≠ 4 → j ≠ 5 → F' j = F j) ∧ mh_frR bd h h' := by
  obtain ⟨hI, hc, g, hg, hw⟩ := hM
  obtain ⟨ho, ⟨i1, i1'⟩, ⟨i2, i2'⟩, ⟨i3, i3'⟩, ⟨i4, i4'⟩, i5⟩ := hc 0 (by omega) (by omega)
  obtain ⟨G, w1, w2, w3⟩ := hc 2 (by omega) (by omega)
  have hnx : mh_nx σ < 21 := Nat.mod_lt _ (by omega)
  have e21 : mh_irem (nI σ.1.1 + (1 : Int32)) (21 : Int32) = nI (mh_nx σ) := by
    show (nI σ.1.1 + 1) - (nI σ.1.1 + 1) / nI 21 * nI 21 = _
    rw [nI_1, pk_rem (by omega) (by omega) (by omega)]
    rfl
  -- the numbers of the object
  have fin : ∀ (H : mh_H) (F' : Nat → Int32), H (bd 0) = some (.inr (12, mh_rf bd F')) → (∀ b, b ≠ bd 0 → H b = h b) → F' 3 = nI (mh_nx σ) → F' 4 = nI (min (σ.1.2.1 + 1) 20) → F' 5 = 0 → (∀ j, j ≠ 3 → j ≠ 4 → j ≠ 5 → F' j = F j) → ∃ h', f_X12_changed_b39 mh_fu (bd 0) 0 H = some h' ∧ mh_RI h' bd σ' F' ∧ (∀ j, j ≠ 3 → j ≠ 4 → j ≠ 5 → F' j = F j) ∧ mh_frR bd h h' := fun H F' o1 o2 o3 o4 o5 o6 => by
    have kp : ∀ y, y < 99 → y ≠ 0 → H (bd y) = h (bd y) := fun y hy e => o2 _ (hI.ne hy (by omega) e)
    obtain ⟨h', g', y1, y2, y3, y4⟩ := mh_r_store (H := H) hI o1 o3 hnx ((kp 2 (by omega) (by omega)).trans w1) ((kp (3 + mh_nx σ) (by omega) (by omega)).trans (w2 _ hnx)) ((kp 1 (by omega) (by omega)).trans hg)
    have kq : ∀ y, y < 99 → y ≠ 0 → y ≠ 3 + mh_nx σ → h' (bd y) = h (bd y) := fun y hy e e2 => (y4 _ (by simp [hI.ne hy (show 3 + mh_nx σ < 99 by omega) e2])).trans (kp y hy e)
    have o0 : h' (bd 0) = some (.inr (12, mh_rf bd F')) := (y4 _ (by simp [hI.ne (show 0 < 99 by omega) (show 3 + mh_nx σ < 99 by omega) (by omega)])).trans o1
    refine ⟨h', y1, ⟨hI, fun j hj => ?_⟩, o6, fun b hb => (y4 b (by simp [hb (3 + mh_nx σ) (by omega)])).trans (o2 b (hb 0 (by omega)))⟩
    obtain rfl | rfl | rfl | rfl | rfl | rfl | rfl | rfl | rfl | rfl | rfl : j = 0 ∨ j = 1 ∨ j = 2 ∨ j = 3 ∨ j = 4 ∨ j = 5 ∨ j = 6 ∨ j = 7 ∨ j = 8 ∨ j = 9 ∨ j = 10 := by omega
    · refine ⟨o0, ?_⟩
      unfold mh_rI
      rw [s1, s2]
      exact ⟨⟨o3, hnx⟩, ⟨o4, Nat.min_le_right _ _⟩, ⟨o5, Nat.zero_le _⟩, ⟨(o6 23 (by omega) (by omega) (by omega)).trans i4, i4'⟩, (o6 15 (by omega) (by omega) (by omega)).trans i5⟩
    · refine ⟨g, (kq 1 (by omega) (by omega) (by omega)).trans hg, hw.congr (fun _ _ => rfl) (fun p hp => ?_)⟩
      unfold mh_mi mh_pc mh_pn
      rw [s1]
      exact s3 p hp
    · refine ⟨fun j => if j = mh_nx σ then g' else G j, (kq 2 (by omega) (by omega) (by omega)).trans w1, fun j hj => ?_, fun j hj => ?_⟩
      · show h' (bd (3 + j)) = some (.inl (0, 304, .inl (if j = mh_nx σ then g' else G j)))
        by_cases e : j = mh_nx σ
        · rw [if_pos e, e]; exact y2
        · rw [if_neg e]
          exact (kq _ (by omega) (by omega) (by omega)).trans (w2 j hj)
      · show mh_Rw (if j = mh_nx σ then g' else G j) _ _ _
        by_cases e : j = mh_nx σ
        · rw [if_pos e, e]
          exact hw.congr y3 s3
        · rw [if_neg e]
          exact (w3 j hj).congr (fun _ _ => rfl) (s4 j hj e)
    · have := mh_rc_keep (h' := h') (show 3 < 11 by omega) (fun k (k1 : 24 ≤ k) (k2 : k < 39) => kq k (by omega) (by omega) (by omega)) (hc 3 (by omega) (by omega))
      obtain ⟨fb, G, a1, a2, a3, a4⟩ := this
      exact ⟨fb, G, a1, a2, a3, by rw [o6 7 (by omega) (by omega) (by omega)]; exact a4⟩
    · exact mh_rc_keep (h' := h') (F := F) (σ := σ) (show 4 < 11 by omega) (fun k (k1 : 39 ≤ k) (k2 : k < 42) => kq k (by omega) (by omega) (by omega)) (hc 4 (by omega) (by omega))
    · exact mh_rc_keep (h' := h') (F := F) (σ := σ) (show 5 < 11 by omega) (fun k (k1 : 42 ≤ k) (k2 : k < 56) => kq k (by omega) (by omega) (by omega)) (hc 5 (by omega) (by omega))
    · exact mh_rc_keep (h' := h') (F := F) (σ := σ) (show 6 < 11 by omega) (fun k (k1 : 56 ≤ k) (k2 : k < 57) => kq k (by omega) (by omega) (by omega)) (hc 6 (by omega) (by omega))
    · have := mh_rc_keep (h' := h') (show 7 < 11 by omega) (fun k (k1 : 57 ≤ k) (k2 : k < 59) => kq k (by omega) (by omega) (by omega)) (hc 7 (by omega) (by omega))
      obtain ⟨f1, f2, a1, a2, a3⟩ := this
      refine ⟨f1, f2, a1, a2, ?_⟩
      rw [o6 16 (by omega) (by omega) (by omega), s2]
      exact a3
    · exact mh_rc_keep (h' := h') (F := F) (σ := σ) (show 8 < 11 by omega) (fun k (k1 : 59 ≤ k) (k2 : k < 65) => kq k (by omega) (by omega) (by omega)) (hc 8 (by omega) (by omega))
    · exact mh_rc_keep (h' := h') (F := F) (σ := σ) (show 9 < 11 by omega) (fun k (k1 : 65 ≤ k) (k2 : k < 93) => kq k (by omega) (by omega) (by omega)) (hc 9 (by omega) (by omega))
    · exact mh_rc_keep (h' := h') (F := F) (σ := σ) (show 10 < 11 by omega) (fun k (k1 : 93 ≤ k) (k2 : k < 99) => kq k (by omega) (by omega) (by omega)) (hc 10 (by omega) (by omega))
  have o1 := mh_up_eq h (bd 0) (.inr (12, mh_rf bd (upd F 5 0)))
  have p1 : mh_pI h (bd 0) 12 5 0 = some (mh_up h (bd 0) (.inr (12, mh_rf bd (upd F 5 0)))) := mh_pI_s _ ho ⟨show 5 < 38 by omega, rfl⟩
  have p2 : mh_pI (mh_up h (bd 0) (.inr (12, mh_rf bd (upd F 5 0)))) (bd 0) 12 3 (nI (mh_nx σ)) = some (mh_up (mh_up h (bd 0) (.inr (12, mh_rf bd (upd F 5 0)))) (bd 0) (.inr (12, mh_rf bd (upd (upd F 5 0) 3 (nI (mh_nx σ)))))) := mh_pI_s _ o1 ⟨show 3 < 38 by omega, rfl⟩
  obtain ⟨H2, eH2⟩ : ∃ H2, H2 = mh_up (mh_up h (bd 0) (.inr (12, mh_rf bd (upd F 5 0)))) (bd 0) (.inr (12, mh_rf bd (upd (upd F 5 0) 3 (nI (mh_nx σ))))) := ⟨_, rfl⟩
  have o2 : H2 (bd 0) = some (.inr (12, mh_rf bd (upd (upd F 5 0) 3 (nI (mh_nx σ))))) := by rw [eH2]; exact mh_up_eq _ _ _
  have off : ∀ b, b ≠ bd 0 → H2 b = h b := fun b hb => by rw [eH2, mh_up_ne hb, mh_up_ne hb]
  have v3 : upd F 5 0 3 = nI σ.1.1 := i1
  have v4 : upd (upd F 5 0) 3 (nI (mh_nx σ)) 4 = nI σ.1.2.1 := i2
  unfold f_X12_changed_e
  rw [p1, Option.bind_some, mh_gI_eq (k := 3) o1 rfl, Option.bind_some, mh_nz_eq (by decide), v3, e21, p2, ← eH2, Option.bind_some, mh_gI_eq (k := 4) o2 rfl, Option.bind_some, v4]
  by_cases hb : 20 ≤ σ.1.2.1
  · rw [if_pos ((mh_lel (a := 20) 20 rfl (by omega) (by omega)).mpr hb)]
    unfold f_X12_changed_b37
    rw [mh_nm_eq]
    obtain ⟨h', z1, z2, z3, z4⟩ := fin H2 _ o2 off (by rfl) (by rw [v4]; congr 1; omega) (by rfl) (fun j e1 e2 e3 => by rw [pk_un e1, pk_un e3])
    exact ⟨h', _, z1, z2, z3, z4⟩
  · rw [if_neg (fun q => hb ((mh_lel (a := 20) 20 rfl (by omega) (by omega)).mp q)), Option.bind_some]
    have e1 : nI σ.1.2.1 + (1 : Int32) = nI (σ.1.2.1 + 1) := nI_add _ 1
    have p3 : mh_pI H2 (bd 0) 12 4 (nI (σ.1.2.1 + 1)) = some (mh_up H2 (bd 0) (.inr (12, mh_rf bd (upd (upd (upd F 5 0) 3 (nI (mh_nx σ))) 4 (nI (σ.1.2.1 + 1)))))) := mh_pI_s _ o2 ⟨show 4 < 38 by omega, rfl⟩
    rw [e1, p3, Option.bind_some]
    unfold f_X12_changed_b37
    rw [mh_nm_eq]
    obtain ⟨h', z1, z2, z3, z4⟩ := fin (mh_up H2 (bd 0) (.inr (12, mh_rf bd (upd (upd (upd F 5 0) 3 (nI (mh_nx σ))) 4 (nI (σ.1.2.1 + 1)))))) _ (mh_up_eq _ _ _) (fun b hb => by rw [mh_up_ne hb]; exact off b hb) (by rfl) (by show nI (σ.1.2.1 + 1) = _; congr 1; omega) (by rfl) (fun j e1 e2 e3 => by rw [pk_un e2, pk_un e1, pk_un e3])
    exact ⟨h', _, z1, z2, z3, z4⟩
end MhModelH
