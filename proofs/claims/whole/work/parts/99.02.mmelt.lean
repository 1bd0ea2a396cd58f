theorem mh_er_get (cs : List Nat) (i j : Nat) : (cs.eraseIdx i).getD j 0 = if j < i then cs.getD j 0 else cs.getD (j + 1) 0 := by
  rw [List.getD_eq_getElem?_getD, List.getElem?_eraseIdx]
  by_cases c : j < i
  · rw [if_pos c, if_pos c, List.getD_eq_getElem?_getD]
  · rw [if_neg c, if_neg c, List.getD_eq_getElem?_getD]
section MhModelE
variable {h : mh_H} {bd : Nat → Nat} {σ : mh_Sg} {F : Nat → Int32}
theorem mh_r_unshift {g : Nat → Int32} {a k n : Nat} (hI : mh_Inj bd 99) (ho : h (bd 0) = some (.inr (12, mh_rf bd F))) (hg : h (bd 1) = some (.inl (0, 304, .inl g))) (hn : g a = nI n) (h1 : 1 ≤ k) (hk : k ≤ n) (ha : a + n < 304) : ∃ h' g', f_X12_melt_b50 mh_fu (bd 0) (nI a) (nI k) h = f_X12_melt_b87 (bd 0) (nI a) h' ∧ h' (bd 1) = some (.inl (0, 304, .inl g')) ∧ mh_fr [bd 1] h h' ∧ (∀ j, j < a + k ∨ a + n ≤ j → g' j = g j) ∧ ∀ j, k ≤ j → j < n → g' (a + j) = g (a + j + 1) := by
  have key := mh_wh (fun m (s : Nat × mh_H) => f_X12_melt_b50 m (bd 0) (nI a) (nI s.1) s.2) (fun (r : mh_H) => f_X12_melt_b87 (bd 0) (nI a) r) (fun s => k ≤ s.1 ∧ s.1 ≤ n ∧ mh_fr [bd 1] h s.2 ∧ ∃ g', s.2 (bd 1) = some (.inl (0, 304, .inl g')) ∧ (∀ j, j < a + k ∨ a + s.1 ≤ j → g' j = g j) ∧ ∀ j, k ≤ j → j < s.1 → g' (a + j) = g (a + j + 1)) (fun s => n - s.1) (fun r => mh_fr [bd 1] h r ∧ ∃ g', r (bd 1) = some (.inl (0, 304, .inl g')) ∧ (∀ j, j < a + k ∨ a + n ≤ j → g' j = g j) ∧ ∀ j, k ≤ j → j < n → g' (a + j) = g (a + j + 1))
    (fun m s hs => by
      obtain ⟨i, hh⟩ := s
      obtain ⟨q1, q2, q3, g', q4, q5, q6⟩ := hs
      have q1 : k ≤ i := q1
      have q2 : i ≤ n := q2
      have q3 : mh_fr [bd 1] h hh := q3
      have q4 : hh (bd 1) = some (.inl (0, 304, .inl g')) := q4
      have q5 : ∀ j, j < a + k ∨ a + i ≤ j → g' j = g j := q5
      have q6 : ∀ j, k ≤ j → j < i → g' (a + j) = g (a + j + 1) := q6
      show (∃ s', _ ∧ _ ∧ f_X12_melt_b50 (m + 1) (bd 0) (nI a) (nI i) hh = _) ∨ ∃ r, _ ∧ f_X12_melt_b50 (m + 1) (bd 0) (nI a) (nI i) hh = _
      have ho' : hh (bd 0) = some (.inr (12, mh_rf bd F)) := (q3 _ (by simp [hI.ne (show 0 < 99 by omega) (show 1 < 99 by omega) (by omega)])).trans ho
      have n' : g' a = nI n := (q5 a (by omega)).trans hn
      by_cases hlt : i < n
      · left
        have e1 : nI a + nI i = nI (a + i) := nI_add _ _
        refine ⟨(i + 1, mh_up hh (bd 1) (.inl (0, 304, .inl (upd g' (a + i) (g' (a + i + 1)))))), ⟨by show k ≤ i + 1; omega, hlt, q3.trans (mh_fr.up List.mem_cons_self), _, mh_up_eq _ _ _, fun j hj => ?_, fun j h1 h2 => ?_⟩, by show n - (i + 1) < n - i; omega, ?_⟩
        · have hj : j < a + k ∨ a + (i + 1) ≤ j := hj
          rw [pk_un (by omega)]
          exact q5 j (by omega)
        · have h2 : j < i + 1 := h2
          by_cases e : j = i
          · rw [e, pk_us]
            exact q5 _ (by omega)
          · rw [pk_un (by omega)]
            exact q6 j h1 (by omega)
        · rw [f_X12_melt_b50, mh_gR_eq (k := 1) ho' rfl, Option.bind_some, mh_aI_eq q4 (show a < 304 by omega) (by omega), Option.bind_some, n', if_neg (fun q => absurd ((nI_leI (by omega) (by omega)).mp q) (by omega)), Option.bind_some, Option.bind_some, e1, nI_1, mh_aI_eq q4 (show a + i + 1 < 304 by omega) (by omega), Option.bind_some, mh_sI_eq q4 (show a + i < 304 by omega) (by omega), Option.bind_some, mh_nm_eq, mh_inc]
      · right
        have e : i = n := by omega
        subst e
        exact ⟨hh, ⟨q3, g', q4, q5, q6⟩, by rw [f_X12_melt_b50, mh_gR_eq (k := 1) ho' rfl, Option.bind_some, mh_aI_eq q4 (show a < 304 by omega) (by omega), Option.bind_some, n', if_pos (Int32.le_refl _)]⟩)
    n mh_fu (k, h) (by show n - k ≤ n; omega) ⟨Nat.le_refl _, hk, mh_fr.rfl, g, hg, fun _ _ => rfl, fun j h1 h2 => absurd h1 (by have h2 : j < k := h2; omega)⟩ (mh_fuel _ (by omega))
  obtain ⟨r, ⟨z1, g', z2, z3, z4⟩, z5⟩ := key
  exact ⟨r, g', z5, z2, z1, z3, z4⟩
theorem mh_M_melt (hR : mh_RI h bd σ F) (x1 x2 : Int32) : ∃ r h' σ' F', f_X12_melt_e (bd 0) x1 x2 h = some (r, h') ∧ mh_Smelt σ x1 x2 r σ' ∧ F' 0 = 0 ∧ mh_RI h' bd σ' F' ∧ mh_frR bd h h' := by
  obtain ⟨h1, F1, p1, R1, z1, f1⟩ := mh_r_code hR
  unfold f_X12_melt_e
  rw [p1, Option.bind_some]
  rcases mh_r_isMint (h := h1) x1 with ⟨p, a1, a2, a3⟩ | ⟨a1, a3⟩
  · subst a2
    obtain ⟨g, hg, hw⟩ := R1.2 1 (by omega)
    obtain ⟨w1, w2, w3, w4, _⟩ := hw p a1
    have hl := w1.1.1
    rw [mh_b2_eq a3, if_neg (by decide), mh_b2_eq mh_r_mintAt, mh_nm_eq]
    have key := mh_wh (fun m (k : Nat) => f_X12_melt_b22 m (bd 0) x2 (nI (13 * p)) (nI k) h1) (fun (k : Nat) => if k ≤ (mh_mi σ p).length then f_X12_melt_b46 (bd 0) (nI (13 * p)) (nI k) h1 else f_X12_melt_b109 h1) (fun k => 1 ≤ k ∧ k ≤ (mh_mi σ p).length + 1 ∧ ∀ j, j + 1 < k → nI ((mh_mi σ p).getD j 0) ≠ x2) (fun k => (mh_mi σ p).length + 1 - k) (fun k => 1 ≤ k ∧ (∀ j, j + 1 < k → nI ((mh_mi σ p).getD j 0) ≠ x2) ∧ (k ≤ (mh_mi σ p).length ∧ nI ((mh_mi σ p).getD (k - 1) 0) = x2 ∨ k = (mh_mi σ p).length + 1))
      (fun m k hk => by
        obtain ⟨q0, q1, q2⟩ := hk
        show (∃ s', _ ∧ _ ∧ f_X12_melt_b22 (m + 1) (bd 0) x2 (nI (13 * p)) (nI k) h1 = _) ∨ ∃ r, _ ∧ f_X12_melt_b22 (m + 1) (bd 0) x2 (nI (13 * p)) (nI k) h1 = _
        rw [f_X12_melt_b22, mh_gR_eq (k := 1) R1.ob rfl, Option.bind_some, mh_aI_eq hg (show 13 * p < 304 by omega) (by omega), Option.bind_some, w3]
        by_cases c : (mh_mi σ p).length < k
        · right
          exact ⟨k, ⟨q0, q2, Or.inr (by omega)⟩, by rw [if_pos ((nI_ltI (by omega) (by omega)).mpr c), if_neg (by omega)]⟩
        · obtain ⟨k', ek⟩ : ∃ k', k = k' + 1 := ⟨k - 1, by omega⟩
          have e1 : nI (13 * p) + nI k = nI (13 * p + 1 + k') := by rw [nI_add, ek]; congr 1; omega
          rw [if_neg (fun q => c ((nI_ltI (by omega) (by omega)).mp q)), Option.bind_some, e1, mh_aI_eq hg (show 13 * p + 1 + k' < 304 by omega) (by omega), Option.bind_some, w4 k' (by omega)]
          by_cases c2 : nI ((mh_mi σ p).getD k' 0) = x2
          · right
            exact ⟨k, ⟨q0, q2, Or.inl ⟨by omega, by rw [ek, Nat.add_sub_cancel]; exact c2⟩⟩, by rw [if_pos c2, if_pos (by omega)]⟩
          · left
            refine ⟨k + 1, ⟨by omega, by omega, fun j hj => ?_⟩, by omega, by rw [if_neg c2, mh_nm_eq, mh_inc]⟩
            by_cases e : j = k'
            · rw [e]; exact c2
            · exact q2 j (by omega))
      12 mh_fu 1 (by omega) ⟨Nat.le_refl _, by omega, fun j hj => absurd hj (by omega)⟩ (mh_fuel _ (by omega))
    obtain ⟨k, ⟨k1, k2, k3⟩, k4⟩ := key
    have k4 : f_X12_melt_b22 mh_fu (bd 0) x2 (nI (13 * p)) 1 h1 = if k ≤ (mh_mi σ p).length then f_X12_melt_b46 (bd 0) (nI (13 * p)) (nI k) h1 else f_X12_melt_b109 h1 := k4
    rw [k4]
    rcases k3 with ⟨k5, k6⟩ | k5
    · rw [if_pos k5]
      unfold f_X12_melt_b46
      obtain ⟨h2, g2, y1, y2, y3, y4, y5⟩ := mh_r_unshift (a := 13 * p) (k := k) (n := (mh_mi σ p).length) R1.1 R1.ob hg w3 k1 k5 (by omega)
      have o2 : h2 (bd 0) = some (.inr (12, mh_rf bd F1)) := (y3 _ (by simp [R1.1.ne (show 0 < 99 by omega) (show 1 < 99 by omega) (by omega)])).trans R1.ob
      have v0 : g2 (13 * p) = nI (mh_mi σ p).length := (y4 _ (by omega)).trans w3
      obtain ⟨g3, eg3⟩ : ∃ g3, g3 = upd g2 (13 * p) (nI ((mh_mi σ p).length - 1)) := ⟨_, rfl⟩
      obtain ⟨h3, eh3⟩ : ∃ h3, h3 = mh_up h2 (bd 1) (.inl (0, 304, .inl g3)) := ⟨_, rfl⟩
      have s3 : mh_sI h2 (bd 1) (nI (13 * p)) (nI ((mh_mi σ p).length - 1)) = some h3 := by rw [mh_sI_eq y2 (by omega) (by omega), eh3, eg3]
      have g3' : h3 (bd 1) = some (.inl (0, 304, .inl g3)) := by rw [eh3]; exact mh_up_eq _ _ _
      have o3 : h3 (bd 0) = some (.inr (12, mh_rf bd F1)) := by rw [eh3, mh_up_ne (R1.1.ne (by omega) (by omega) (by omega))]; exact o2
      have fr3 : mh_fr [bd 1] h1 h3 := by rw [eh3]; exact y3.trans (mh_fr.up List.mem_cons_self)
      have hel : ((mh_mi σ p).eraseIdx (k - 1)).length = (mh_mi σ p).length - 1 := by rw [List.length_eraseIdx, if_pos (by omega)]
      obtain ⟨h5, F5, u1, u2, u3, u4⟩ := mh_r_mint R1 a1 (M := (mh_mi σ p).eraseIdx (k - 1)) g3' fr3 (mh_ms_sub w1 (List.eraseIdx_sublist _ _)) (by rw [eg3, pk_us, hel]) (fun i hi => by
        rw [hel] at hi
        rw [eg3, pk_un (by omega), mh_er_get]
        by_cases c1 : i < k - 1
        · rw [if_pos c1, y4 _ (by omega)]
          exact w4 i (by omega)
        · rw [if_neg c1, show 13 * p + 1 + i = 13 * p + (1 + i) by omega, y5 (1 + i) (by omega) (by omega), ← w4 (i + 1) (by omega)]
          congr 1
          omega) (fun g0 hg0 j hj hn => by
        rw [hg] at hg0
        cases hg0
        rw [eg3, pk_un (by omega)]
        exact y4 j (by omega))
      have e4 : nI (mh_mi σ p).length - (1 : Int32) = nI ((mh_mi σ p).length - 1) := pk_sub (b := 1) (by omega)
      rw [y1]
      unfold f_X12_melt_b87
      rw [mh_gR_eq (k := 1) o2 rfl, Option.bind_some, mh_aI_eq y2 (show 13 * p < 304 by omega) (by omega), Option.bind_some, v0, e4, s3, Option.bind_some, mh_cal_eq o3, u1, Option.bind_some]
      exact ⟨1, h5, _, F5, rfl, Or.inl ⟨p, k - 1, a1, rfl, show k - 1 < (mh_mi σ p).length by omega, k6.symm, rfl, rfl⟩, (u3 0 (by omega) (by omega) (by omega)).trans z1, u2, f1.trans u4⟩
    · rw [if_neg (by omega)]
      refine ⟨0, h1, σ, F1, rfl, Or.inr ⟨fun q i hq e hi e2 => ?_, rfl, rfl⟩, z1, R1, f1⟩
      have eq := (nI_eq (by omega) (by omega)).mp e
      subst eq
      exact k2 i (by have hi : i < (mh_mi σ p).length := hi; omega) e2.symm
  · rw [mh_b2_eq a3, if_pos rfl]
    exact ⟨0, h1, σ, F1, rfl, Or.inr ⟨fun q i hq e _ _ => a1 q hq e, rfl, rfl⟩, z1, R1, f1⟩
end MhModelE
