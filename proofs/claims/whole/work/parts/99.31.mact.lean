/-- deal's moves in the row of now -/
theorem mh_gs_s {c k : Nat} {cs ks : List Nat} {P : List Nat × List Nat} (hm : mh_ms (c :: cs)) (hP : mh_ms P.1) (hlP : P.2.length = P.1.length) (h12 : P.1.length + mh_nw (c :: cs) (k :: ks) P.1 ≤ 12) : (k ≠ 0 → c ∈ P.1 ∨ P.1.length < 12) ∧ mh_ms (if k = 0 then P else mh_gt2 P c k).1 ∧ (if k = 0 then P else mh_gt2 P c k).2.length = (if k = 0 then P else mh_gt2 P c k).1.length ∧ (if k = 0 then P else mh_gt2 P c k).1.length + mh_nw cs ks (if k = 0 then P else mh_gt2 P c k).1 ≤ 12 := by
  have hc := hm.1.2 c List.mem_cons_self
  have hlt := (List.pairwise_cons.mp hm.2).1
  rw [mh_nw] at h12
  by_cases k0 : k = 0
  · rw [if_pos k0]
    rw [if_neg (fun z => z.1 k0), Nat.zero_add] at h12
    exact ⟨fun z => absurd k0 z, hP, hlP, h12⟩
  · rw [if_neg k0]
    have h3 : c ∈ P.1 ∨ P.1.length < 12 := by
      by_cases q : c ∈ P.1
      · exact Or.inl q
      · rw [if_pos ⟨k0, q⟩] at h12
        exact Or.inr (by omega)
    obtain ⟨g1, g2, g3, g4, g5⟩ := mh_gt2_ok (k := k) hP hlP hc.1 hc.2 h3
    have nwe : mh_nw cs ks (mh_gt2 P c k).1 = mh_nw cs ks P.1 := mh_nw_congr cs ks (fun x hx => by
      rw [g3 x]
      exact ⟨fun q => q.elim id (fun q => by have := hlt x hx; omega), Or.inl⟩)
    refine ⟨fun _ => h3, g1, g2, ?_⟩
    rw [nwe, g5]
    by_cases q : c ∈ P.1
    · rw [if_pos q]; rw [if_neg (fun z => z.2 q)] at h12; omega
    · rw [if_neg q]; rw [if_pos ⟨k0, q⟩] at h12; omega
section MhModelAct
variable {h : mh_H} {bd : Nat → Nat} {σ : mh_Sg} {F : Nat → Int32}
theorem mh_r_subA {x4 x6 : Int32} {a : Nat} {c n ks : List Nat} {f fo : Nat → Int32} (hI : mh_Inj bd 99) (ha : a + 25 ≤ 304) (hc : c.length ≤ 12) (hn : ∀ i, n.getD i 0 ≤ 20) (hkn : ∀ i, i < c.length → ks.getD i 0 ≤ n.getD i 0) (f0 : f 0 = nI c.length) (fk : ∀ i, i < c.length → fo i = nI (ks.getD i 0)) : ∀ (d i m : Nat) (hh : mh_H) (g : Nat → Int32), i + d = c.length → d < m → hh (bd 0) = some (.inr (12, mh_rf bd F)) → hh (bd 1) = some (.inl (0, 304, .inl g)) → hh (bd 98) = some (.inl (0, 50, .inl f)) → hh (bd 96) = some (.inl (0, 12, .inl fo)) → (∀ t, i ≤ t → t < c.length → g (a + 13 + t) = nI (n.getD t 0)) → ∃ h' g', f_X12_deal_b395 m (bd 0) x4 (nI a) x6 (bd 98) (nI i) hh = f_X12_deal_b433 (bd 0) x4 (nI a) x6 (bd 98) h' ∧ mh_fr [bd 1] hh h' ∧ h' (bd 1) = some (.inl (0, 304, .inl g')) ∧ (∀ t, i ≤ t → t < c.length → g' (a + 13 + t) = nI (n.getD t 0 - ks.getD t 0)) ∧ ∀ j, (j < a + 13 + i ∨ a + 13 + c.length ≤ j) → g' j = g j := by
  intro d
  induction d with
  | zero =>
    intro i m hh g hi hm ho hg h98 h96 hv
    obtain ⟨m, rfl⟩ : ∃ t, m = t + 1 := ⟨m - 1, by omega⟩
    have e0 : mh_aI hh (bd 98) 0 (0 : Int32) = some (f 0) := mh_aI_eq (j := 0) h98 (by omega) (by omega)
    refine ⟨hh, g, ?_, mh_fr.rfl, hg, fun t h1 h2 => by omega, fun _ _ => rfl⟩
    rw [f_X12_deal_b395, e0, Option.bind_some, f0, if_pos ((nI_leI (by omega) (by omega)).mpr (by omega))]
  | succ d ih =>
    intro i m hh g hi hm ho hg h98 h96 hv
    obtain ⟨m, rfl⟩ : ∃ t, m = t + 1 := ⟨m - 1, by omega⟩
    have e0 : mh_aI hh (bd 98) 0 (0 : Int32) = some (f 0) := mh_aI_eq (j := 0) h98 (by omega) (by omega)
    have e1 : nI a + (13 : Int32) + nI i = nI (a + 13 + i) := by rw [show (13 : Int32) = nI 13 from rfl, nI_add, nI_add]
    have kb := hkn i (by omega)
    have nb := hn i
    obtain ⟨H, eH⟩ : ∃ H, H = mh_up hh (bd 1) (.inl (0, 304, .inl (upd g (a + 13 + i) (nI (n.getD i 0 - ks.getD i 0))))) := ⟨_, rfl⟩
    have s1 : mh_sI hh (bd 1) (nI (a + 13 + i)) (nI (n.getD i 0 - ks.getD i 0)) = some H := by rw [eH]; exact mh_sI_eq hg (by omega) (by omega)
    have ne : ∀ {k : Nat}, k < 99 → k ≠ 1 → H (bd k) = hh (bd k) := fun h1 h2 => by rw [eH, mh_up_ne (hI.ne h1 (by omega) h2)]
    obtain ⟨h', g', y1, y2, y3, y4, y5⟩ := ih (i + 1) m H (upd g (a + 13 + i) (nI (n.getD i 0 - ks.getD i 0))) (by omega) (by omega) (by rw [ne (by omega) (by omega)]; exact ho) (by rw [eH]; exact mh_up_eq _ _ _) (by rw [ne (by omega) (by omega)]; exact h98) (by rw [ne (by omega) (by omega)]; exact h96) (fun t h1 h2 => by rw [pk_un (by omega)]; exact hv t (by omega) h2)
    refine ⟨h', g', ?_, ?_, y3, fun t h1 h2 => ?_, fun j hj => ?_⟩
    · rw [f_X12_deal_b395, e0, Option.bind_some, f0, if_neg (fun z => absurd ((nI_leI (by omega) (by omega)).mp z) (by omega)), mh_gR_eq (k := 1) ho rfl, Option.bind_some, e1, mh_aI_eq hg (show a + 13 + i < 304 by omega) (by omega), Option.bind_some, mh_gR_eq (k := 35) ho rfl, Option.bind_some, mh_aI_eq h96 (show i < 12 by omega) (by omega), Option.bind_some, hv i (Nat.le_refl _) (by omega), fk i (by omega), pk_sub kb, s1, Option.bind_some, mh_nm_eq, mh_inc, y1]
    · refine mh_fr.trans ?_ y2
      rw [eH]
      exact mh_fr.up List.mem_cons_self
    · by_cases e : t = i
      · rw [e, y5 _ (Or.inl (by omega)), pk_us]
      · exact y4 t (by omega) h2
    · rw [y5 j (by omega), pk_un (by omega)]
theorem mh_r_subB {x4 x5 : Int32} {a : Nat} {c n ks : List Nat} {f fo : Nat → Int32} (hI : mh_Inj bd 99) (ha : a + 25 ≤ 304) (hc : c.length ≤ 12) (hn : ∀ i, n.getD i 0 ≤ 20) (hkn : ∀ i, i < c.length → ks.getD i 0 ≤ n.getD i 0) (f0 : f 25 = nI c.length) (fk : ∀ i, i < c.length → fo i = nI (ks.getD i 0)) : ∀ (d i m : Nat) (hh : mh_H) (g : Nat → Int32), i + d = c.length → d < m → hh (bd 0) = some (.inr (12, mh_rf bd F)) → hh (bd 1) = some (.inl (0, 304, .inl g)) → hh (bd 98) = some (.inl (0, 50, .inl f)) → hh (bd 97) = some (.inl (0, 12, .inl fo)) → (∀ t, i ≤ t → t < c.length → g (a + 13 + t) = nI (n.getD t 0)) → ∃ h' g', f_X12_deal_b436 m (bd 0) x4 x5 (nI a) (bd 98) (nI i) hh = f_X12_deal_b475 (bd 0) x4 x5 (nI a) (bd 98) h' ∧ mh_fr [bd 1] hh h' ∧ h' (bd 1) = some (.inl (0, 304, .inl g')) ∧ (∀ t, i ≤ t → t < c.length → g' (a + 13 + t) = nI (n.getD t 0 - ks.getD t 0)) ∧ ∀ j, (j < a + 13 + i ∨ a + 13 + c.length ≤ j) → g' j = g j := by
  intro d
  induction d with
  | zero =>
    intro i m hh g hi hm ho hg h98 h96 hv
    obtain ⟨m, rfl⟩ : ∃ t, m = t + 1 := ⟨m - 1, by omega⟩
    have e0 : mh_aI hh (bd 98) 0 (25 : Int32) = some (f 25) := mh_aI_eq (j := 25) h98 (by omega) (by omega)
    refine ⟨hh, g, ?_, mh_fr.rfl, hg, fun t h1 h2 => by omega, fun _ _ => rfl⟩
    rw [f_X12_deal_b436, e0, Option.bind_some, f0, if_pos ((nI_leI (by omega) (by omega)).mpr (by omega))]
  | succ d ih =>
    intro i m hh g hi hm ho hg h98 h96 hv
    obtain ⟨m, rfl⟩ : ∃ t, m = t + 1 := ⟨m - 1, by omega⟩
    have e0 : mh_aI hh (bd 98) 0 (25 : Int32) = some (f 25) := mh_aI_eq (j := 25) h98 (by omega) (by omega)
    have e1 : nI a + (13 : Int32) + nI i = nI (a + 13 + i) := by rw [show (13 : Int32) = nI 13 from rfl, nI_add, nI_add]
    have kb := hkn i (by omega)
    have nb := hn i
    obtain ⟨H, eH⟩ : ∃ H, H = mh_up hh (bd 1) (.inl (0, 304, .inl (upd g (a + 13 + i) (nI (n.getD i 0 - ks.getD i 0))))) := ⟨_, rfl⟩
    have s1 : mh_sI hh (bd 1) (nI (a + 13 + i)) (nI (n.getD i 0 - ks.getD i 0)) = some H := by rw [eH]; exact mh_sI_eq hg (by omega) (by omega)
    have ne : ∀ {k : Nat}, k < 99 → k ≠ 1 → H (bd k) = hh (bd k) := fun h1 h2 => by rw [eH, mh_up_ne (hI.ne h1 (by omega) h2)]
    obtain ⟨h', g', y1, y2, y3, y4, y5⟩ := ih (i + 1) m H (upd g (a + 13 + i) (nI (n.getD i 0 - ks.getD i 0))) (by omega) (by omega) (by rw [ne (by omega) (by omega)]; exact ho) (by rw [eH]; exact mh_up_eq _ _ _) (by rw [ne (by omega) (by omega)]; exact h98) (by rw [ne (by omega) (by omega)]; exact h96) (fun t h1 h2 => by rw [pk_un (by omega)]; exact hv t (by omega) h2)
    refine ⟨h', g', ?_, ?_, y3, fun t h1 h2 => ?_, fun j hj => ?_⟩
    · rw [f_X12_deal_b436, e0, Option.bind_some, f0, if_neg (fun z => absurd ((nI_leI (by omega) (by omega)).mp z) (by omega)), mh_gR_eq (k := 1) ho rfl, Option.bind_some, e1, mh_aI_eq hg (show a + 13 + i < 304 by omega) (by omega), Option.bind_some, mh_gR_eq (k := 36) ho rfl, Option.bind_some, mh_aI_eq h96 (show i < 12 by omega) (by omega), Option.bind_some, hv i (Nat.le_refl _) (by omega), fk i (by omega), pk_sub kb, s1, Option.bind_some, mh_nm_eq, mh_inc, y1]
    · refine mh_fr.trans ?_ y2
      rw [eH]
      exact mh_fr.up List.mem_cons_self
    · by_cases e : t = i
      · rw [e, y5 _ (Or.inl (by omega)), pk_us]
      · exact y4 t (by omega) h2
    · rw [y5 j (by omega), pk_un (by omega)]
theorem mh_r_getA {x4 x5 : Int32} {a : Nat} {c ks : List Nat} {f fo : Nat → Int32} (hI : mh_Inj bd 99) (ha : a + 25 ≤ 304) (hms : mh_ms c) (hkl : ks.length = c.length) (hk20 : ∀ i, ks.getD i 0 ≤ 20) (f0 : f 0 = nI c.length) (f1 : ∀ i, i < c.length → f (1 + i) = nI (c.getD i 0)) (fk : ∀ i, i < c.length → fo i = nI (ks.getD i 0)) : ∀ (d i m : Nat) (hh : mh_H) (g : Nat → Int32) (P : List Nat × List Nat), i + d = c.length → d < m → hh (bd 0) = some (.inr (12, mh_rf bd F)) → hh (bd 1) = some (.inl (0, 304, .inl g)) → hh (bd 98) = some (.inl (0, 50, .inl f)) → hh (bd 96) = some (.inl (0, 12, .inl fo)) → mh_Pv g a P.1 P.2 → mh_ms P.1 → P.2.length = P.1.length → P.1.length + mh_nw (c.drop i) (ks.drop i) P.1 ≤ 12 → ∃ h' g', f_X12_deal_b478 m (bd 0) x4 x5 (nI a) (bd 98) (nI i) hh = f_X12_deal_b513 (bd 0) x4 x5 (bd 98) h' ∧ mh_fr [bd 1] hh h' ∧ h' (bd 1) = some (.inl (0, 304, .inl g')) ∧ mh_Pv g' a (mh_gs (c.drop i) (ks.drop i) P).1 (mh_gs (c.drop i) (ks.drop i) P).2 ∧ ∀ j, j < 304 → (j < a ∨ a + 25 ≤ j) → g' j = g j := by
  have lc := hms.1.1
  intro d
  induction d with
  | zero =>
    intro i m hh g P hi hm ho hg h98 h96 hP p1 p2 p3
    obtain ⟨m, rfl⟩ : ∃ t, m = t + 1 := ⟨m - 1, by omega⟩
    have e0 : mh_aI hh (bd 98) 0 (0 : Int32) = some (f 0) := mh_aI_eq (j := 0) h98 (by omega) (by omega)
    have eg : ∀ l, mh_gs [] l P = P := fun l => by cases l <;> rfl
    refine ⟨hh, g, ?_, mh_fr.rfl, hg, ?_, fun _ _ _ => rfl⟩
    · rw [f_X12_deal_b478, e0, Option.bind_some, f0, if_pos ((nI_leI (by omega) (by omega)).mpr (by omega))]
    · rw [List.drop_eq_nil_of_le (show c.length ≤ i by omega), eg]
      exact hP
  | succ d ih =>
    intro i m hh g P hi hm ho hg h98 h96 hP p1 p2 p3
    obtain ⟨m, rfl⟩ : ∃ t, m = t + 1 := ⟨m - 1, by omega⟩
    have e0 : mh_aI hh (bd 98) 0 (0 : Int32) = some (f 0) := mh_aI_eq (j := 0) h98 (by omega) (by omega)
    have e1 : (1 : Int32) + nI i = nI (1 + i) := by rw [show (1 : Int32) = nI 1 from rfl, nI_add]
    have cb := hms.1.get (show i < c.length by omega)
    have kb := hk20 i
    have msd : mh_ms (c.getD i 0 :: c.drop (i + 1)) := by rw [← mh_drop_s (by omega)]; exact mh_ms_sub hms (List.drop_sublist _ _)
    rw [mh_drop_s (show i < c.length by omega), mh_drop_s (show i < ks.length by omega)] at p3 ⊢
    obtain ⟨s1, s2, s3, s4⟩ := mh_gs_s msd p1 p2 p3
    rw [mh_gs]
    obtain ⟨H, g2, b1, b2, b3, b4, b5⟩ := mh_r_gets hI ho hg ha hP p1 p2 cb.1 cb.2 (show ks.getD i 0 < 2 ^ 31 by omega) s1
    have ne : ∀ {k : Nat}, k < 99 → k ≠ 1 → H (bd k) = hh (bd k) := fun h1 h2 => b3 _ (by simp [hI.ne h1 (show 1 < 99 by omega) h2])
    obtain ⟨h', g', y1, y2, y3, y4, y5⟩ := ih (i + 1) m H g2 (if ks.getD i 0 = 0 then P else mh_gt2 P (c.getD i 0) (ks.getD i 0)) (by omega) (by omega) (by rw [ne (by omega) (by omega)]; exact ho) b2 (by rw [ne (by omega) (by omega)]; exact h98) (by rw [ne (by omega) (by omega)]; exact h96) b4 s2 s3 s4
    refine ⟨h', g', ?_, b3.trans y2, y3, y4, fun j h1 h2 => (y5 j h1 h2).trans (b5 j h1 h2)⟩
    rw [f_X12_deal_b478, e0, Option.bind_some, f0, if_neg (fun z => absurd ((nI_leI (by omega) (by omega)).mp z) (by omega)), e1, mh_aI_eq h98 (show 1 + i < 50 by omega) (by omega), Option.bind_some, mh_gR_eq (k := 35) ho rfl, Option.bind_some, mh_aI_eq h96 (show i < 12 by omega) (by omega), Option.bind_some, f1 i (by omega), fk i (by omega), mh_cal_eq ho, b1, Option.bind_some, mh_nm_eq, mh_inc, y1]
theorem mh_r_getB {x4 : Int32} {a : Nat} {c ks : List Nat} {f fo : Nat → Int32} (hI : mh_Inj bd 99) (ha : a + 25 ≤ 304) (hms : mh_ms c) (hkl : ks.length = c.length) (hk20 : ∀ i, ks.getD i 0 ≤ 20) (f0 : f 25 = nI c.length) (f1 : ∀ i, i < c.length → f (26 + i) = nI (c.getD i 0)) (fk : ∀ i, i < c.length → fo i = nI (ks.getD i 0)) : ∀ (d i m : Nat) (hh : mh_H) (g : Nat → Int32) (P : List Nat × List Nat), i + d = c.length → d < m → hh (bd 0) = some (.inr (12, mh_rf bd F)) → hh (bd 1) = some (.inl (0, 304, .inl g)) → hh (bd 98) = some (.inl (0, 50, .inl f)) → hh (bd 97) = some (.inl (0, 12, .inl fo)) → mh_Pv g a P.1 P.2 → mh_ms P.1 → P.2.length = P.1.length → P.1.length + mh_nw (c.drop i) (ks.drop i) P.1 ≤ 12 → ∃ h' g', f_X12_deal_b516 m (bd 0) x4 (nI a) (bd 98) (nI i) hh = f_X12_deal_b553 (bd 0) x4 h' ∧ mh_fr [bd 1] hh h' ∧ h' (bd 1) = some (.inl (0, 304, .inl g')) ∧ mh_Pv g' a (mh_gs (c.drop i) (ks.drop i) P).1 (mh_gs (c.drop i) (ks.drop i) P).2 ∧ ∀ j, j < 304 → (j < a ∨ a + 25 ≤ j) → g' j = g j := by
  have lc := hms.1.1
  intro d
  induction d with
  | zero =>
    intro i m hh g P hi hm ho hg h98 h96 hP p1 p2 p3
    obtain ⟨m, rfl⟩ : ∃ t, m = t + 1 := ⟨m - 1, by omega⟩
    have e0 : mh_aI hh (bd 98) 0 (25 : Int32) = some (f 25) := mh_aI_eq (j := 25) h98 (by omega) (by omega)
    have eg : ∀ l, mh_gs [] l P = P := fun l => by cases l <;> rfl
    refine ⟨hh, g, ?_, mh_fr.rfl, hg, ?_, fun _ _ _ => rfl⟩
    · rw [f_X12_deal_b516, e0, Option.bind_some, f0, if_pos ((nI_leI (by omega) (by omega)).mpr (by omega))]
    · rw [List.drop_eq_nil_of_le (show c.length ≤ i by omega), eg]
      exact hP
  | succ d ih =>
    intro i m hh g P hi hm ho hg h98 h96 hP p1 p2 p3
    obtain ⟨m, rfl⟩ : ∃ t, m = t + 1 := ⟨m - 1, by omega⟩
    have e0 : mh_aI hh (bd 98) 0 (25 : Int32) = some (f 25) := mh_aI_eq (j := 25) h98 (by omega) (by omega)
    have e1 : (26 : Int32) + nI i = nI (26 + i) := by rw [show (26 : Int32) = nI 26 from rfl, nI_add]
    have cb := hms.1.get (show i < c.length by omega)
    have kb := hk20 i
    have msd : mh_ms (c.getD i 0 :: c.drop (i + 1)) := by rw [← mh_drop_s (by omega)]; exact mh_ms_sub hms (List.drop_sublist _ _)
    rw [mh_drop_s (show i < c.length by omega), mh_drop_s (show i < ks.length by omega)] at p3 ⊢
    obtain ⟨s1, s2, s3, s4⟩ := mh_gs_s msd p1 p2 p3
    rw [mh_gs]
    obtain ⟨H, g2, b1, b2, b3, b4, b5⟩ := mh_r_gets hI ho hg ha hP p1 p2 cb.1 cb.2 (show ks.getD i 0 < 2 ^ 31 by omega) s1
    have ne : ∀ {k : Nat}, k < 99 → k ≠ 1 → H (bd k) = hh (bd k) := fun h1 h2 => b3 _ (by simp [hI.ne h1 (show 1 < 99 by omega) h2])
    obtain ⟨h', g', y1, y2, y3, y4, y5⟩ := ih (i + 1) m H g2 (if ks.getD i 0 = 0 then P else mh_gt2 P (c.getD i 0) (ks.getD i 0)) (by omega) (by omega) (by rw [ne (by omega) (by omega)]; exact ho) b2 (by rw [ne (by omega) (by omega)]; exact h98) (by rw [ne (by omega) (by omega)]; exact h96) b4 s2 s3 s4
    refine ⟨h', g', ?_, b3.trans y2, y3, y4, fun j h1 h2 => (y5 j h1 h2).trans (b5 j h1 h2)⟩
    rw [f_X12_deal_b516, e0, Option.bind_some, f0, if_neg (fun z => absurd ((nI_leI (by omega) (by omega)).mp z) (by omega)), e1, mh_aI_eq h98 (show 26 + i < 50 by omega) (by omega), Option.bind_some, mh_gR_eq (k := 36) ho rfl, Option.bind_some, mh_aI_eq h96 (show i < 12 by omega) (by omega), Option.bind_some, f1 i (by omega), fk i (by omega), mh_cal_eq ho, b1, Option.bind_some, mh_nm_eq, mh_inc, y1]
theorem mh_r_mid {x4 : Int32} {a b : Nat} {g : Nat → Int32} (hI : mh_Inj bd 99) (ha : a + 25 ≤ 304) (hb : b + 25 ≤ 304) : ∀ (d i m : Nat) (hh : mh_H) (f : Nat → Int32), i + d = 25 → d < m → hh (bd 0) = some (.inr (12, mh_rf bd F)) → hh (bd 1) = some (.inl (0, 304, .inl g)) → hh (bd 98) = some (.inl (0, 50, .inl f)) → (∀ t, t < i → f t = g (a + t) ∧ f (25 + t) = g (b + t)) → ∃ h' f', f_X12_deal_b346 m (bd 0) x4 (nI a) (nI b) (bd 98) (nI i) hh = f_X12_deal_b392 (bd 0) x4 (nI a) (nI b) (bd 98) h' ∧ mh_fr [bd 98] hh h' ∧ h' (bd 98) = some (.inl (0, 50, .inl f')) ∧ ∀ t, t < 25 → f' t = g (a + t) ∧ f' (25 + t) = g (b + t) := by
  intro d
  induction d with
  | zero =>
    intro i m hh f hi hm ho hg h98 hv
    obtain ⟨m, rfl⟩ : ∃ t, m = t + 1 := ⟨m - 1, by omega⟩
    refine ⟨hh, f, ?_, mh_fr.rfl, h98, fun t ht => hv t (by omega)⟩
    rw [f_X12_deal_b346, if_pos (by rw [show i = 25 by omega]; decide)]
  | succ d ih =>
    intro i m hh f hi hm ho hg h98 hv
    obtain ⟨m, rfl⟩ : ∃ t, m = t + 1 := ⟨m - 1, by omega⟩
    have e1 : (25 : Int32) + nI i = nI (25 + i) := by rw [show (25 : Int32) = nI 25 from rfl, nI_add]
    obtain ⟨H, eH⟩ : ∃ H, H = mh_up hh (bd 98) (.inl (0, 50, .inl (upd f i (g (a + i))))) := ⟨_, rfl⟩
    have s1 : mh_sI hh (bd 98) (nI i) (g (a + i)) = some H := by rw [eH]; exact mh_sI_eq h98 (by omega) (by omega)
    have ne : ∀ {k : Nat}, k < 98 → H (bd k) = hh (bd k) := fun h1 => by rw [eH, mh_up_ne (hI.ne (by omega) (by omega) (by omega))]
    have H98 : H (bd 98) = some (.inl (0, 50, .inl (upd f i (g (a + i))))) := by rw [eH]; exact mh_up_eq _ _ _
    obtain ⟨H2, eH2⟩ : ∃ H2, H2 = mh_up H (bd 98) (.inl (0, 50, .inl (upd (upd f i (g (a + i))) (25 + i) (g (b + i))))) := ⟨_, rfl⟩
    have s2 : mh_sI H (bd 98) (nI (25 + i)) (g (b + i)) = some H2 := by rw [eH2]; exact mh_sI_eq H98 (by omega) (by omega)
    have ne2 : ∀ {k : Nat}, k < 98 → H2 (bd k) = hh (bd k) := fun h1 => by rw [eH2, mh_up_ne (hI.ne (by omega) (by omega) (by omega)), ne h1]
    have Ho : H (bd 0) = some (.inr (12, mh_rf bd F)) := by rw [ne (by omega)]; exact ho
    have Hg : H (bd 1) = some (.inl (0, 304, .inl g)) := by rw [ne (by omega)]; exact hg
    obtain ⟨h', f', y1, y2, y3, y4⟩ := ih (i + 1) m H2 (upd (upd f i (g (a + i))) (25 + i) (g (b + i))) (by omega) (by omega) (by rw [ne2 (by omega)]; exact ho) (by rw [ne2 (by omega)]; exact hg) (by rw [eH2]; exact mh_up_eq _ _ _) (fun t ht => by
      by_cases e : t = i
      · rw [e, pk_un (by omega), pk_us, pk_us]; exact ⟨rfl, rfl⟩
      · rw [pk_un (by omega), pk_un (by omega), pk_un (by omega), pk_un (by omega)]; exact hv t (by omega))
    refine ⟨h', f', ?_, ?_, y3, y4⟩
    · rw [f_X12_deal_b346, if_neg (show ¬ (25 : Int32) ≤ nI i from fun z => absurd ((nI_leI (show 25 < 2 ^ 31 by omega) (show i < 2 ^ 31 by omega)).mp z) (by omega)), mh_gR_eq (k := 1) ho rfl, Option.bind_some, nI_add, mh_aI_eq hg (show a + i < 304 by omega) (by omega), Option.bind_some, s1, Option.bind_some, mh_gR_eq (k := 1) Ho rfl, Option.bind_some, nI_add, mh_aI_eq Hg (show b + i < 304 by omega) (by omega), Option.bind_some, e1, s2, Option.bind_some, mh_nm_eq, mh_inc, y1]
    · refine mh_fr.trans ?_ y2
      rw [eH2, eH]
      exact (mh_fr.up List.mem_cons_self).trans (mh_fr.up List.mem_cons_self)
end MhModelAct
