theorem mh_nv_le {cs : List Nat} {s : Nat} (hp : ∀ x, x ∈ cs → 1 ≤ x) (hs : s ≤ 100300) : mh_nv (mh_mn cs s) ≤ 536870912 := by
  cases e : mh_mn cs s with
  | none => exact Nat.le_refl _
  | some n =>
    have := mh_mn_b hp e
    show n ≤ 536870912
    omega
theorem mh_nv_nil (s : Nat) : mh_nv (mh_mn [] s) = if s = 0 then 0 else 536870912 := by
  by_cases c : s = 0
  · rw [if_pos c, c, mh_mn0]
    rfl
  · rw [if_neg c]
    cases e : mh_mn [] s with
    | none => rfl
    | some n => exact absurd (mh_py_nil.mp ⟨n, mh_mn_pay e⟩) c
theorem mh_nv_step {cs : List Nat} {i s : Nat} (hm : mh_ms cs) (hi : i < cs.length) (hs : s ≤ 100300) : mh_nv (mh_mn (cs.take (i + 1)) s) = if cs.getD i 0 ≤ s ∧ mh_nv (mh_mn (cs.take (i + 1)) (s - cs.getD i 0)) + 1 < mh_nv (mh_mn (cs.take i) s) then mh_nv (mh_mn (cs.take (i + 1)) (s - cs.getD i 0)) + 1 else mh_nv (mh_mn (cs.take i) s) := by
  refine mh_nv_ins ?_ (fun x hx => ?_) (fun x hx => ?_) (fun x hx => ?_) (by omega)
  · rw [mh_take_s hi]
    exact List.mem_append.mpr (Or.inr List.mem_cons_self)
  · rw [mh_take_s hi]
    exact List.mem_append.mpr (Or.inl hx)
  · rw [mh_take_s hi] at hx
    rcases List.mem_append.mp hx with q | q
    · exact Or.inr q
    · exact Or.inl (List.mem_singleton.mp q)
  · exact (hm.1.2 x (List.mem_of_mem_take hx)).1
section MhModelT
variable {h : mh_H} {bd : Nat → Nat} {σ : mh_Sg} {F : Nat → Int32}
/-- one row of fewest from the row before -/
theorem mh_r_row (k165 : Nat → Int32 → mh_H → Option mh_H) {cs : List Nat} {j : Nat} {g0 gr : Nat → Int32} (hI : mh_Inj bd 99) (hm : mh_ms cs) (hj : j < cs.length) (ho : h (bd 0) = some (.inr (12, mh_rf bd F))) (hO : mh_Oi h (bd 25) (fun j => bd (26 + j)) 13) (h0 : h (bd (26 + j)) = some (.inl (0, 100301, .inl g0))) (hg0 : ∀ s, s ≤ 100300 → g0 s = nI (mh_nv (mh_mn (cs.take j) s))) (h1 : h (bd (26 + (j + 1))) = some (.inl (0, 100301, .inl gr))) : ∃ h' g', f_X12_table_b188 k165 mh_fu (bd 0) (nI (j + 1)) (nI (cs.getD j 0)) 0 h = f_X12_table_b272 k165 (bd 0) (nI (j + 1)) h' ∧ h' (bd (26 + (j + 1))) = some (.inl (0, 100301, .inl g')) ∧ (∀ s, s ≤ 100300 → g' s = nI (mh_nv (mh_mn (cs.take (j + 1)) s))) ∧ mh_fr [bd (26 + (j + 1))] h h' := by
  have hl := hm.1.1
  have hc := hm.1.get hj
  have hp : ∀ i x, x ∈ cs.take i → 1 ≤ x := fun i x hx => (hm.1.2 x (List.mem_of_mem_take hx)).1
  have key := mh_wh (fun m (q : Nat × mh_H) => f_X12_table_b188 k165 m (bd 0) (nI (j + 1)) (nI (cs.getD j 0)) (nI q.1) q.2) (fun (r : mh_H) => f_X12_table_b272 k165 (bd 0) (nI (j + 1)) r) (fun q => q.1 ≤ 100301 ∧ mh_fr [bd (26 + (j + 1))] h q.2 ∧ ∃ g', q.2 (bd (26 + (j + 1))) = some (.inl (0, 100301, .inl g')) ∧ ∀ s, s < q.1 → g' s = nI (mh_nv (mh_mn (cs.take (j + 1)) s))) (fun q => 100301 - q.1) (fun r => mh_fr [bd (26 + (j + 1))] h r ∧ ∃ g', r (bd (26 + (j + 1))) = some (.inl (0, 100301, .inl g')) ∧ ∀ s, s ≤ 100300 → g' s = nI (mh_nv (mh_mn (cs.take (j + 1)) s)))
    (fun m q hq => by
      obtain ⟨s, hh⟩ := q
      obtain ⟨q1, q2, g', q3, q4⟩ := hq
      have q1 : s ≤ 100301 := q1
      have q2 : mh_fr [bd (26 + (j + 1))] h hh := q2
      have q3 : hh (bd (26 + (j + 1))) = some (.inl (0, 100301, .inl g')) := q3
      have q4 : ∀ t, t < s → g' t = nI (mh_nv (mh_mn (cs.take (j + 1)) t)) := q4
      show (∃ s', _ ∧ _ ∧ f_X12_table_b188 k165 (m + 1) (bd 0) (nI (j + 1)) (nI (cs.getD j 0)) (nI s) hh = _) ∨ ∃ r, _ ∧ f_X12_table_b188 k165 (m + 1) (bd 0) (nI (j + 1)) (nI (cs.getD j 0)) (nI s) hh = _
      have kp : ∀ y, y < 99 → y ≠ 26 + (j + 1) → hh (bd y) = h (bd y) := fun y hy e => q2 _ (by simp [hI.ne hy (show 26 + (j + 1) < 99 by omega) e])
      have ho' := (kp 0 (by omega) (by omega)).trans ho
      have hO' : mh_Oi hh (bd 25) (fun j => bd (26 + j)) 13 := (kp 25 (by omega) (by omega)).trans hO
      have h0' := (kp (26 + j) (by omega) (by omega)).trans h0
      by_cases hlt : s ≤ 100300
      · left
        have e1 : nI (j + 1) - (1 : Int32) = nI j := pk_sub (b := 1) (by omega)
        have st := mh_nv_step (s := s) hm hj hlt
        have b0 := mh_nv_le (s := s) (hp j) hlt
        have fin : ∀ v, v = nI (mh_nv (mh_mn (cs.take (j + 1)) s)) → ∃ s' : Nat × mh_H, (s'.1 ≤ 100301 ∧ mh_fr [bd (26 + (j + 1))] h s'.2 ∧ ∃ g', s'.2 (bd (26 + (j + 1))) = some (.inl (0, 100301, .inl g')) ∧ ∀ t, t < s'.1 → g' t = nI (mh_nv (mh_mn (cs.take (j + 1)) t))) ∧ 100301 - s'.1 < 100301 - s ∧ f_X12_table_b265 (f_X12_table_b188 k165 m) (bd 0) (nI (j + 1)) (nI (cs.getD j 0)) (nI s) (bd (26 + (j + 1))) (nI s) v hh = f_X12_table_b188 k165 m (bd 0) (nI (j + 1)) (nI (cs.getD j 0)) (nI s'.1) s'.2 := fun v hv => by
          refine ⟨(s + 1, mh_up hh (bd (26 + (j + 1))) (.inl (0, 100301, .inl (upd g' s v)))), ⟨by show s + 1 ≤ 100301; omega, q2.trans (mh_fr.up List.mem_cons_self), upd g' s v, mh_up_eq _ _ _, fun t ht => ?_⟩, by show 100301 - (s + 1) < 100301 - s; omega, ?_⟩
          · have ht : t < s + 1 := ht
            by_cases e : t = s
            · rw [e, pk_us]; exact hv
            · rw [pk_un e]; exact q4 t (by omega)
          · unfold f_X12_table_b265
            rw [mh_sI_eq q3 (by omega) (by omega), Option.bind_some, mh_nm_eq, mh_inc]
        have a0 : mh_aR hh (bd 25) 5 (nI j) = some (bd (26 + j)) := mh_aR_eq hO' (show j < 13 by omega) (by omega) rfl
        have a1 : mh_aR hh (bd 25) 5 (nI (j + 1)) = some (bd (26 + (j + 1))) := mh_aR_eq hO' (show j + 1 < 13 by omega) (by omega) rfl
        rw [f_X12_table_b188, if_neg (fun q => absurd ((mh_ltl (a := 100300) 100300 rfl (by omega) (by omega)).mp q) (by omega)), mh_gR_eq (k := 8) ho' rfl, Option.bind_some, e1, a0, Option.bind_some, mh_aI_eq h0' (show s < 100301 by omega) (by omega), Option.bind_some, hg0 s hlt, Option.bind_some, a1, Option.bind_some]
        by_cases c1 : s < cs.getD j 0
        · rw [if_pos ((nI_ltI (by omega) (by omega)).mpr c1)]
          unfold f_X12_table_b263
          exact fin _ (by rw [st, if_neg (by omega)])
        · have b1 := mh_nv_le (s := s - cs.getD j 0) (hp (j + 1)) (by omega)
          have e2 : nI (mh_nv (mh_mn (cs.take (j + 1)) (s - cs.getD j 0))) + (1 : Int32) = nI (mh_nv (mh_mn (cs.take (j + 1)) (s - cs.getD j 0)) + 1) := nI_1 _
          rw [if_neg (fun q => c1 ((nI_ltI (by omega) (by omega)).mp q)), Option.bind_some, Option.bind_some, pk_sub (by omega), a1, Option.bind_some, mh_aI_eq q3 (show s - cs.getD j 0 < 100301 by omega) (by omega), Option.bind_some, q4 (s - cs.getD j 0) (by omega), e2]
          by_cases c2 : mh_nv (mh_mn (cs.take j) s) ≤ mh_nv (mh_mn (cs.take (j + 1)) (s - cs.getD j 0)) + 1
          · rw [if_pos ((nI_leI (by omega) (by omega)).mpr c2)]
            unfold f_X12_table_b263
            exact fin _ (by rw [st, if_neg (by omega)])
          · rw [if_neg (fun q => c2 ((nI_leI (by omega) (by omega)).mp q)), Option.bind_some, mh_aI_eq q3 (show s - cs.getD j 0 < 100301 by omega) (by omega), Option.bind_some, q4 (s - cs.getD j 0) (by omega), e2]
            exact fin _ (by rw [st, if_pos ⟨by omega, by omega⟩])
      · right
        have e : s = 100301 := by omega
        subst e
        exact ⟨hh, ⟨q2, g', q3, fun s hs => q4 s (by omega)⟩, by rw [f_X12_table_b188, if_pos ((mh_ltl (a := 100300) 100300 rfl (by omega) (by omega)).mpr (by omega))]⟩)
    100301 mh_fu (0, h) (Nat.le_refl _) ⟨Nat.zero_le _, mh_fr.rfl, gr, h1, fun t ht => absurd ht (Nat.not_lt_zero t)⟩ (mh_fuel _ (by omega))
  obtain ⟨r, ⟨z1, g', z2, z3⟩, z4⟩ := key
  exact ⟨r, g', z4, z2, z3, z1⟩
/-- the first row -/
theorem mh_r_row0 {gr : Nat → Int32} (hI : mh_Inj bd 99) (ho : h (bd 0) = some (.inr (12, mh_rf bd F))) (hO : mh_Oi h (bd 25) (fun j => bd (26 + j)) 13) (h0 : h (bd 26) = some (.inl (0, 100301, .inl gr))) : ∃ h' g', f_X12_table_b129 mh_fu (bd 0) 0 h = f_X12_table_b162 (bd 0) h' ∧ h' (bd 26) = some (.inl (0, 100301, .inl g')) ∧ (∀ s, s ≤ 100300 → g' s = nI (mh_nv (mh_mn [] s))) ∧ mh_fr [bd 26] h h' := by
  have key := mh_wh (fun m (q : Nat × mh_H) => f_X12_table_b129 m (bd 0) (nI q.1) q.2) (fun (r : mh_H) => f_X12_table_b162 (bd 0) r) (fun q => q.1 ≤ 100301 ∧ mh_fr [bd 26] h q.2 ∧ ∃ g', q.2 (bd 26) = some (.inl (0, 100301, .inl g')) ∧ ∀ s, s < q.1 → g' s = nI (mh_nv (mh_mn [] s))) (fun q => 100301 - q.1) (fun r => mh_fr [bd 26] h r ∧ ∃ g', r (bd 26) = some (.inl (0, 100301, .inl g')) ∧ ∀ s, s ≤ 100300 → g' s = nI (mh_nv (mh_mn [] s)))
    (fun m q hq => by
      obtain ⟨s, hh⟩ := q
      obtain ⟨q1, q2, g', q3, q4⟩ := hq
      have q1 : s ≤ 100301 := q1
      have q2 : mh_fr [bd 26] h hh := q2
      have q3 : hh (bd 26) = some (.inl (0, 100301, .inl g')) := q3
      have q4 : ∀ t, t < s → g' t = nI (mh_nv (mh_mn [] t)) := q4
      show (∃ s', _ ∧ _ ∧ f_X12_table_b129 (m + 1) (bd 0) (nI s) hh = _) ∨ ∃ r, _ ∧ f_X12_table_b129 (m + 1) (bd 0) (nI s) hh = _
      have kp : ∀ y, y < 99 → y ≠ 26 → hh (bd y) = h (bd y) := fun y hy e => q2 _ (by simp [hI.ne hy (show 26 < 99 by omega) e])
      have ho' := (kp 0 (by omega) (by omega)).trans ho
      have hO' : mh_Oi hh (bd 25) (fun j => bd (26 + j)) 13 := (kp 25 (by omega) (by omega)).trans hO
      by_cases hlt : s ≤ 100300
      · left
        have fin : ∀ v, v = nI (mh_nv (mh_mn [] s)) → ∃ s' : Nat × mh_H, (s'.1 ≤ 100301 ∧ mh_fr [bd 26] h s'.2 ∧ ∃ g', s'.2 (bd 26) = some (.inl (0, 100301, .inl g')) ∧ ∀ t, t < s'.1 → g' t = nI (mh_nv (mh_mn [] t))) ∧ 100301 - s'.1 < 100301 - s ∧ f_X12_table_b155 (f_X12_table_b129 m) (bd 0) (nI s) (bd 26) (nI s) v hh = f_X12_table_b129 m (bd 0) (nI s'.1) s'.2 := fun v hv => by
          refine ⟨(s + 1, mh_up hh (bd 26) (.inl (0, 100301, .inl (upd g' s v)))), ⟨by show s + 1 ≤ 100301; omega, q2.trans (mh_fr.up List.mem_cons_self), upd g' s v, mh_up_eq _ _ _, fun t ht => ?_⟩, by show 100301 - (s + 1) < 100301 - s; omega, ?_⟩
          · have ht : t < s + 1 := ht
            by_cases e : t = s
            · rw [e, pk_us]; exact hv
            · rw [pk_un e]; exact q4 t (by omega)
          · unfold f_X12_table_b155
            rw [mh_sI_eq q3 (by omega) (by omega), Option.bind_some, mh_nm_eq, mh_inc]
        have a0 : mh_aR hh (bd 25) 5 (0 : Int32) = some (bd 26) := mh_aR_eq (j := 0) hO' (by omega) (by omega) rfl
        rw [f_X12_table_b129, if_neg (fun q => absurd ((mh_ltl (a := 100300) 100300 rfl (by omega) (by omega)).mp q) (by omega)), mh_gR_eq (k := 8) ho' rfl, Option.bind_some, a0, Option.bind_some]
        by_cases c : s = 0
        · rw [if_pos ((mh_eqr (b := 0) 0 rfl (by omega) (by omega)).mpr c)]
          exact fin _ (by rw [mh_nv_nil, if_pos c]; rfl)
        · rw [if_neg (fun q => c ((mh_eqr (b := 0) 0 rfl (by omega) (by omega)).mp q))]
          exact fin _ (by rw [mh_nv_nil, if_neg c]; rfl)
      · right
        have e : s = 100301 := by omega
        subst e
        exact ⟨hh, ⟨q2, g', q3, fun s hs => q4 s (by omega)⟩, by rw [f_X12_table_b129, if_pos ((mh_ltl (a := 100300) 100300 rfl (by omega) (by omega)).mpr (by omega))]⟩)
    100301 mh_fu (0, h) (Nat.le_refl _) ⟨Nat.zero_le _, mh_fr.rfl, gr, h0, fun t ht => absurd ht (Nat.not_lt_zero t)⟩ (mh_fuel _ (by omega))
  obtain ⟨r, ⟨z1, g', z2, z3⟩, z4⟩ := key
  exact ⟨r, g', z4, z2, z3, z1⟩
end MhModelT
