/-- the reference's table of ways of the coins cs -/
def mh_Wt (h : mh_H) (bd : Nat → Nat) (cs : List Nat) : Prop := ∃ G, mh_Oy h (bd 42) (fun j => bd (43 + j)) ∧ mh_Ry h (fun j => bd (43 + j)) G ∧ ∀ j, j ≤ cs.length → ∀ s, s ≤ 3000 → G j s = lN (mh_wy cs j s)
section MhModelW
variable {h : mh_H} {bd : Nat → Nat} {σ : mh_Sg} {F : Nat → Int32}
theorem mh_r_wrow0 {o1 : Nat} {x2 x3 : Int32} {gr : Nat → Int64} (hI : mh_Inj bd 99) (ho : h (bd 0) = some (.inr (12, mh_rf bd F))) (hO : mh_Oy h (bd 42) (fun j => bd (43 + j))) (h0 : h (bd 43) = some (.inl (1, 3001, .inr (.inl gr)))) : ∃ h' g', f_X12_count_b3 mh_fu (bd 0) o1 x2 x3 0 h = f_X12_count_b36 (bd 0) o1 x2 x3 h' ∧ h' (bd 43) = some (.inl (1, 3001, .inr (.inl g'))) ∧ (∀ s, s ≤ 3000 → g' s = lN (if s = 0 then 1 else 0)) ∧ mh_fr [bd 43] h h' := by
  have key := mh_wh (fun m (q : Nat × mh_H) => f_X12_count_b3 m (bd 0) o1 x2 x3 (nI q.1) q.2) (fun (r : mh_H) => f_X12_count_b36 (bd 0) o1 x2 x3 r) (fun q => q.1 ≤ 3001 ∧ mh_fr [bd 43] h q.2 ∧ ∃ g', q.2 (bd 43) = some (.inl (1, 3001, .inr (.inl g'))) ∧ ∀ s, s < q.1 → g' s = lN (if s = 0 then 1 else 0)) (fun q => 3001 - q.1) (fun r => mh_fr [bd 43] h r ∧ ∃ g', r (bd 43) = some (.inl (1, 3001, .inr (.inl g'))) ∧ ∀ s, s ≤ 3000 → g' s = lN (if s = 0 then 1 else 0))
    (fun m q hq => by
      obtain ⟨s, hh⟩ := q
      obtain ⟨q1, q2, g', q3, q4⟩ := hq
      have q1 : s ≤ 3001 := q1
      have q2 : mh_fr [bd 43] h hh := q2
      have q3 : hh (bd 43) = some (.inl (1, 3001, .inr (.inl g'))) := q3
      have q4 : ∀ t, t < s → g' t = lN (if t = 0 then 1 else 0) := q4
      show (∃ s', _ ∧ _ ∧ f_X12_count_b3 (m + 1) (bd 0) o1 x2 x3 (nI s) hh = _) ∨ ∃ r, _ ∧ f_X12_count_b3 (m + 1) (bd 0) o1 x2 x3 (nI s) hh = _
      have kp : ∀ y, y < 43 → hh (bd y) = h (bd y) := fun y hy => q2 _ (by simp [hI.ne (show y < 99 by omega) (show 43 < 99 by omega) (by omega)])
      have ho' := (kp 0 (by omega)).trans ho
      have hO' : mh_Oy hh (bd 42) (fun j => bd (43 + j)) := (kp 42 (by omega)).trans hO
      rw [f_X12_count_b3]
      by_cases hlt : s ≤ 3000
      · left
        have fin : ∀ v, v = lN (if s = 0 then 1 else 0) → ∃ s' : Nat × mh_H, (s'.1 ≤ 3001 ∧ mh_fr [bd 43] h s'.2 ∧ ∃ g', s'.2 (bd 43) = some (.inl (1, 3001, .inr (.inl g'))) ∧ ∀ t, t < s'.1 → g' t = lN (if t = 0 then 1 else 0)) ∧ 3001 - s'.1 < 3001 - s ∧ f_X12_count_b29 (f_X12_count_b3 m) (bd 0) o1 x2 x3 (nI s) (bd 43) (nI s) v hh = f_X12_count_b3 m (bd 0) o1 x2 x3 (nI s'.1) s'.2 := fun v hv => by
          refine ⟨(s + 1, mh_up hh (bd 43) (.inl (1, 3001, .inr (.inl (vp_updL g' s v))))), ⟨by show s + 1 ≤ 3001; omega, q2.trans (mh_fr.up List.mem_cons_self), vp_updL g' s v, mh_up_eq _ _ _, fun t ht => ?_⟩, by show 3001 - (s + 1) < 3001 - s; omega, ?_⟩
          · have ht : t < s + 1 := ht
            by_cases e : t = s
            · rw [e, pk_uLs]; exact hv
            · rw [pk_uLn e]; exact q4 t (by omega)
          · unfold f_X12_count_b29
            rw [mh_sJ_eq q3 (by omega) (by omega), Option.bind_some, mh_nm_eq, mh_inc]
        have a0 : mh_aR hh (bd 42) 6 (0 : Int32) = some (bd 43) := mh_aR_eq (j := 0) hO' (by omega) (by omega) rfl
        rw [if_neg (fun q => absurd ((mh_lel (a := 3001) 3001 rfl (by omega) (by omega)).mp q) (by omega)), mh_gR_eq (k := 12) ho' rfl, Option.bind_some, a0, Option.bind_some]
        by_cases c : s = 0
        · rw [if_pos ((mh_eqr (b := 0) 0 rfl (by omega) (by omega)).mpr c)]
          exact fin _ (by rw [if_pos c]; rfl)
        · rw [if_neg (fun q => c ((mh_eqr (b := 0) 0 rfl (by omega) (by omega)).mp q))]
          exact fin _ (by rw [if_neg c]; rfl)
      · right
        exact ⟨hh, ⟨q2, g', q3, fun s hs => q4 s (by omega)⟩, by rw [if_pos ((mh_lel (a := 3001) 3001 rfl (by omega) (by omega)).mpr (by omega))]⟩)
    3001 mh_fu (0, h) (Nat.le_refl _) ⟨Nat.zero_le _, mh_fr.rfl, gr, h0, fun t ht => absurd ht (Nat.not_lt_zero t)⟩ (mh_fuel _ (by omega))
  obtain ⟨r, ⟨z1, g', z2, z3⟩, z4⟩ := key
  exact ⟨r, g', z4, z2, z3, z1⟩
theorem mh_r_wrow (k39 : Nat → Nat → Int32 → Int32 → Int32 → mh_H → Option mh_H) {o1 : Nat} {x2 x3 : Int32} {cs : List Nat} {j : Nat} {g0 gr : Nat → Int64} (hI : mh_Inj bd 99) (hm : mh_ms cs) (hj : j < cs.length) (ho : h (bd 0) = some (.inr (12, mh_rf bd F))) (hO : mh_Oy h (bd 42) (fun j => bd (43 + j))) (h0 : h (bd (43 + j)) = some (.inl (1, 3001, .inr (.inl g0)))) (hg0 : ∀ s, s ≤ 3000 → g0 s = lN (mh_wy cs j s)) (h1 : h (bd (43 + (j + 1))) = some (.inl (1, 3001, .inr (.inl gr)))) : ∃ h' g', f_X12_count_b58 k39 mh_fu (bd 0) o1 x2 x3 (nI (j + 1)) (nI (cs.getD j 0)) 0 h = f_X12_count_b129 k39 (bd 0) o1 x2 x3 (nI (j + 1)) h' ∧ h' (bd (43 + (j + 1))) = some (.inl (1, 3001, .inr (.inl g'))) ∧ (∀ s, s ≤ 3000 → g' s = lN (mh_wy cs (j + 1) s)) ∧ mh_fr [bd (43 + (j + 1))] h h' := by
  have hl := hm.1.1
  have hc := hm.1.get hj
  have key := mh_wh (fun m (q : Nat × mh_H) => f_X12_count_b58 k39 m (bd 0) o1 x2 x3 (nI (j + 1)) (nI (cs.getD j 0)) (nI q.1) q.2) (fun (r : mh_H) => f_X12_count_b129 k39 (bd 0) o1 x2 x3 (nI (j + 1)) r) (fun q => q.1 ≤ 3001 ∧ mh_fr [bd (43 + (j + 1))] h q.2 ∧ ∃ g', q.2 (bd (43 + (j + 1))) = some (.inl (1, 3001, .inr (.inl g'))) ∧ ∀ s, s < q.1 → g' s = lN (mh_wy cs (j + 1) s)) (fun q => 3001 - q.1) (fun r => mh_fr [bd (43 + (j + 1))] h r ∧ ∃ g', r (bd (43 + (j + 1))) = some (.inl (1, 3001, .inr (.inl g'))) ∧ ∀ s, s ≤ 3000 → g' s = lN (mh_wy cs (j + 1) s))
    (fun m q hq => by
      obtain ⟨s, hh⟩ := q
      obtain ⟨q1, q2, g', q3, q4⟩ := hq
      have q1 : s ≤ 3001 := q1
      have q2 : mh_fr [bd (43 + (j + 1))] h hh := q2
      have q3 : hh (bd (43 + (j + 1))) = some (.inl (1, 3001, .inr (.inl g'))) := q3
      have q4 : ∀ t, t < s → g' t = lN (mh_wy cs (j + 1) t) := q4
      show (∃ s', _ ∧ _ ∧ f_X12_count_b58 k39 (m + 1) (bd 0) o1 x2 x3 (nI (j + 1)) (nI (cs.getD j 0)) (nI s) hh = _) ∨ ∃ r, _ ∧ f_X12_count_b58 k39 (m + 1) (bd 0) o1 x2 x3 (nI (j + 1)) (nI (cs.getD j 0)) (nI s) hh = _
      have kp : ∀ y, y < 99 → y ≠ 43 + (j + 1) → hh (bd y) = h (bd y) := fun y hy e => q2 _ (by simp [hI.ne hy (show 43 + (j + 1) < 99 by omega) e])
      have ho' := (kp 0 (by omega) (by omega)).trans ho
      have hO' : mh_Oy hh (bd 42) (fun j => bd (43 + j)) := (kp 42 (by omega) (by omega)).trans hO
      have h0' := (kp (43 + j) (by omega) (by omega)).trans h0
      rw [f_X12_count_b58]
      by_cases hlt : s ≤ 3000
      · left
        have e1 : nI (j + 1) - (1 : Int32) = nI j := pk_sub (b := 1) (by omega)
        have hcap : mh_CAP = 4000000000000000001 := rfl
        have a0 : mh_aR hh (bd 42) 6 (nI j) = some (bd (43 + j)) := mh_aR_eq hO' (show j < 13 by omega) (by omega) rfl
        have a1 : mh_aR hh (bd 42) 6 (nI (j + 1)) = some (bd (43 + (j + 1))) := mh_aR_eq hO' (show j + 1 < 13 by omega) (by omega) rfl
        have st := mh_wy_s (s := s) hc.1
        have l0 := mh_wy_le cs j s
        have fin : ∀ u, u ≤ mh_CAP → mh_wy cs (j + 1) s = min (mh_wy cs j s + u) mh_CAP → ∃ s' : Nat × mh_H, (s'.1 ≤ 3001 ∧ mh_fr [bd (43 + (j + 1))] h s'.2 ∧ ∃ g', s'.2 (bd (43 + (j + 1))) = some (.inl (1, 3001, .inr (.inl g'))) ∧ ∀ t, t < s'.1 → g' t = lN (mh_wy cs (j + 1) t)) ∧ 3001 - s'.1 < 3001 - s ∧ f_X12_count_b102 (f_X12_count_b58 k39 m) (bd 0) o1 x2 x3 (nI (j + 1)) (nI (cs.getD j 0)) (nI s) (lN (mh_wy cs j s)) (lN u) hh = f_X12_count_b58 k39 m (bd 0) o1 x2 x3 (nI (j + 1)) (nI (cs.getD j 0)) (nI s'.1) s'.2 := fun u hu hw => by
          have ev : (if (4000000000000000001 : Int64) < lN (mh_wy cs j s + u) then (4000000000000000001 : Int64) else lN (mh_wy cs j s + u)) = lN (mh_wy cs (j + 1) s) := by
            rw [mh_lcap, hw]
            by_cases c : mh_CAP < mh_wy cs j s + u
            · rw [if_pos ((pk_lLT (by omega) (by omega)).mpr c), Nat.min_eq_right (by omega)]
            · rw [if_neg (fun q => c ((pk_lLT (by omega) (by omega)).mp q)), Nat.min_eq_left (by omega)]
          refine ⟨(s + 1, mh_up hh (bd (43 + (j + 1))) (.inl (1, 3001, .inr (.inl (vp_updL g' s (lN (mh_wy cs (j + 1) s))))))), ⟨by show s + 1 ≤ 3001; omega, q2.trans (mh_fr.up List.mem_cons_self), _, mh_up_eq _ _ _, fun t ht => ?_⟩, by show 3001 - (s + 1) < 3001 - s; omega, ?_⟩
          · have ht : t < s + 1 := ht
            by_cases e : t = s
            · rw [e, pk_uLs]
            · rw [pk_uLn e]; exact q4 t (by omega)
          · unfold f_X12_count_b102
            rw [mh_nm_eq, mh_gR_eq (k := 12) ho' rfl, Option.bind_some, a1, Option.bind_some, lN_add, ev, mh_sJ_eq q3 (by omega) (by omega), Option.bind_some, mh_nm_eq, mh_inc]
        rw [if_neg (fun q => absurd ((mh_lel (a := 3001) 3001 rfl (by omega) (by omega)).mp q) (by omega)), mh_gR_eq (k := 12) ho' rfl, Option.bind_some, e1, a0, Option.bind_some, mh_aJ_eq h0' (show s < 3001 by omega) (by omega), Option.bind_some, hg0 s hlt]
        by_cases c1 : s < cs.getD j 0
        · rw [if_pos ((nI_ltI (by omega) (by omega)).mpr c1)]
          exact fin 0 (Nat.zero_le _) (by rw [st, if_neg (by omega)])
        · rw [if_neg (fun q => c1 ((nI_ltI (by omega) (by omega)).mp q)), Option.bind_some, a1, Option.bind_some, pk_sub (by omega), mh_aJ_eq q3 (show s - cs.getD j 0 < 3001 by omega) (by omega), Option.bind_some, q4 (s - cs.getD j 0) (by omega)]
          exact fin _ (mh_wy_le _ _ _) (by rw [st, if_pos (by omega)])
      · right
        exact ⟨hh, ⟨q2, g', q3, fun s hs => q4 s (by omega)⟩, by rw [if_pos ((mh_lel (a := 3001) 3001 rfl (by omega) (by omega)).mpr (by omega))]⟩)
    3001 mh_fu (0, h) (Nat.le_refl _) ⟨Nat.zero_le _, mh_fr.rfl, gr, h1, fun t ht => absurd ht (Nat.not_lt_zero t)⟩ (mh_fuel _ (by omega))
  obtain ⟨r, ⟨z1, g', z2, z3⟩, z4⟩ := key
  exact ⟨r, g', z4, z2, z3, z1⟩
theorem mh_r_count (hR : mh_RI h bd σ F) {cs : List Nat} (hm : mh_ms cs) {a N fr : Nat} {g : Nat → Int32} (ha : h a = some (.inl (0, N, .inl g))) (hN : fr + cs.length ≤ N) (hN2 : N < 2 ^ 31) (hv : ∀ i, i < cs.length → g (fr + i) = nI (cs.getD i 0)) (hne : ∀ y, 43 ≤ y → y < 56 → a ≠ bd y) : ∃ h', f_X12_count_e (bd 0) a (nI fr) (nI cs.length) h = some h' ∧ mh_RI h' bd σ F ∧ mh_Wt h' bd cs ∧ mh_frR bd h h' ∧ ∀ b, (∀ y, 43 ≤ y → y < 56 → b ≠ bd y) → h' b = h b := by
  have hI := hR.1
  have ho := hR.ob
  have hl := hm.1.1
  obtain ⟨G, w1, w2⟩ := hR.2 5 (by omega)
  obtain ⟨h1, g1, y1, y2, y3, y4⟩ := mh_r_wrow0 (o1 := a) (x2 := nI fr) (x3 := nI cs.length) hI ho w1 (w2 0 (by omega))
  have k1 : ∀ y, y < 99 → y ≠ 43 → h1 (bd y) = h (bd y) := fun y hy e => y4 _ (by simp [hI.ne hy (show 43 < 99 by omega) e])
  have key := mh_wh (fun m (q : Nat × mh_H) => f_X12_count_b39 m (bd 0) a (nI fr) (nI cs.length) (nI (q.1 + 1)) q.2) (fun (r : mh_H) => some r) (fun q => q.1 ≤ cs.length ∧ (∀ b, (∀ y, 43 ≤ y → y < 56 → b ≠ bd y) → q.2 b = h b) ∧ ∃ G, mh_Ry q.2 (fun j => bd (43 + j)) G ∧ ∀ j, j ≤ q.1 → ∀ s, s ≤ 3000 → G j s = lN (mh_wy cs j s)) (fun q => cs.length - q.1) (fun r => (∀ b, (∀ y, 43 ≤ y → y < 56 → b ≠ bd y) → r b = h b) ∧ ∃ G, mh_Ry r (fun j => bd (43 + j)) G ∧ ∀ j, j ≤ cs.length → ∀ s, s ≤ 3000 → G j s = lN (mh_wy cs j s))
    (fun m q hq => by
      obtain ⟨j, hh⟩ := q
      obtain ⟨q1, q2, G, q3, q4⟩ := hq
      have q1 : j ≤ cs.length := q1
      have q2 : ∀ b, (∀ y, 43 ≤ y → y < 56 → b ≠ bd y) → hh b = h b := q2
      have q3 : mh_Ry hh (fun j => bd (43 + j)) G := q3
      have q4 : ∀ i, i ≤ j → ∀ s, s ≤ 3000 → G i s = lN (mh_wy cs i s) := q4
      show (∃ s', _ ∧ _ ∧ f_X12_count_b39 (m + 1) (bd 0) a (nI fr) (nI cs.length) (nI (j + 1)) hh = _) ∨ ∃ r, _ ∧ f_X12_count_b39 (m + 1) (bd 0) a (nI fr) (nI cs.length) (nI (j + 1)) hh = _
      have kp : ∀ y, y < 43 → hh (bd y) = h (bd y) := fun y hy => q2 _ (fun z z1 z2 => hI.ne (by omega) (by omega) (by omega))
      have ho' := (kp 0 (by omega)).trans ho
      have hO' : mh_Oy hh (bd 42) (fun j => bd (43 + j)) := (kp 42 (by omega)).trans w1
      have ha' := (q2 a hne).trans ha
      rw [f_X12_count_b39]
      by_cases hlt : j < cs.length
      · left
        have e1 : nI fr + nI (j + 1) - (1 : Int32) = nI (fr + j) := by
          rw [nI_add, show fr + (j + 1) = fr + j + 1 by omega]
          exact pk_sub (b := 1) (by omega)
        obtain ⟨h', g', u1, u2, u3, u4⟩ := mh_r_wrow (h := hh) (F := F) (f_X12_count_b39 m) (o1 := a) (x2 := nI fr) (x3 := nI cs.length) (j := j) hI hm hlt ho' hO' (q3 j (by omega)) (fun s hs => q4 j (Nat.le_refl _) s hs) (q3 (j + 1) (by omega))
        refine ⟨(j + 1, h'), ⟨hlt, fun b hb => (u4 b (by simp [hb (43 + (j + 1)) (by omega) (by omega)])).trans (q2 b hb), fun z => if z = j + 1 then g' else G z, fun z hz => ?_, fun z hz s hs => ?_⟩, by show cs.length - (j + 1) < cs.length - j; omega, ?_⟩
        · show h' (bd (43 + z)) = some (.inl (1, 3001, .inr (.inl (if z = j + 1 then g' else G z))))
          by_cases e : z = j + 1
          · rw [if_pos e, e]; exact u2
          · rw [if_neg e]
            exact (u4 _ (by simp [hI.ne (show 43 + z < 99 by omega) (show 43 + (j + 1) < 99 by omega) (by omega)])).trans (q3 z hz)
        · have hz : z ≤ j + 1 := hz
          show (if z = j + 1 then g' else G z) s = _
          by_cases e : z = j + 1
          · rw [if_pos e, e]; exact u3 s hs
          · rw [if_neg e]; exact q4 z (by omega) s hs
        · rw [if_neg (fun q => absurd ((nI_ltI (by omega) (by omega)).mp q) (by omega)), e1, mh_aI_eq ha' (show fr + j < N by omega) hN2, Option.bind_some, hv j hlt, mh_nm_eq, u1]
          unfold f_X12_count_b129
          rw [mh_nm_eq, mh_inc]
      · right
        have e : j = cs.length := by omega
        subst e
        exact ⟨hh, ⟨q2, G, q3, q4⟩, by rw [if_pos ((nI_ltI (by omega) (by omega)).mpr (by omega))]; rfl⟩)
    13 mh_fu (0, h1) (by show cs.length - 0 ≤ 13; omega) ⟨Nat.zero_le _, fun b hb => y4 b (by simp [hb 43 (by omega) (by omega)]), fun z => if z = 0 then g1 else G z, fun z hz => by
      show h1 (bd (43 + z)) = some (.inl (1, 3001, .inr (.inl (if z = 0 then g1 else G z))))
      by_cases e : z = 0
      · rw [if_pos e, e]; exact y2
      · rw [if_neg e]
        exact (k1 _ (by omega) (by omega)).trans (w2 z hz), fun j hj s hs => by
      have hj : j ≤ 0 := hj
      have e : j = 0 := by omega
      subst e
      show (if 0 = 0 then g1 else G 0) s = _
      rw [if_pos rfl, y3 s hs, mh_wy_0]⟩ (mh_fuel _ (by omega))
  obtain ⟨h', ⟨z1, G', z2, z3⟩, z4⟩ := key
  have z4 : f_X12_count_b39 mh_fu (bd 0) a (nI fr) (nI cs.length) 1 h1 = some h' := z4
  have O' : mh_Oy h' (bd 42) (fun j => bd (43 + j)) := (z1 _ (fun y y1 y2 => hI.ne (by omega) (by omega) (by omega))).trans w1
  obtain ⟨R2, f2⟩ := hR.one (h' := h') 5 (by omega) (fun b hb => z1 b (fun y y1 y2 => hb y (by show 42 ≤ y; omega) (by show y < 56; omega))) ⟨G', O', z2⟩
  refine ⟨h', ?_, R2, ⟨G', O', z2, z3⟩, f2, z1⟩
  unfold f_X12_count_e
  rw [mh_nm_eq, y1]
  unfold f_X12_count_b36
  rw [mh_nm_eq, z4]
/-- the ways of a mint -/
theorem mh_r_countM (hR : mh_RI h bd σ F) {p : Nat} (hp : p < 8) : ∃ h', f_X12_count_e (bd 0) (bd 1) (nI (13 * p + 1)) (nI (mh_mi σ p).length) h = some h' ∧ mh_RI h' bd σ F ∧ mh_Wt h' bd (mh_mi σ p) ∧ mh_frR bd h h' := by
  obtain ⟨g, hg, hw⟩ := hR.2 1 (by omega)
  obtain ⟨w1, w2, w3, w4, _⟩ := hw p hp
  have hl := w1.1.1
  obtain ⟨h', a1, a2, a3, a4, _⟩ := mh_r_count hR w1 (fr := 13 * p + 1) hg (by omega) (by omega) w4 (fun y y1 y2 => hR.1.ne (by omega) (by omega) (by omega))
  exact ⟨h', a1, a2, a3, a4⟩
theorem mh_M_ways (hR : mh_RI h bd σ F) (x1 x2 : Int32) : ∃ r v h' F', f_X12_ways_e (bd 0) x1 x2 h = some (v, h') ∧ mh_Qm σ x1 (mh_Bways x2) r ∧ mh_an r v F' ∧ mh_RI h' bd σ F' ∧ mh_frR bd h h' := by
  obtain ⟨h1, F1, p1, R1, z1, f1⟩ := mh_r_code hR
  unfold f_X12_ways_e
  rw [p1, Option.bind_some]
  rcases mh_r_isMint (h := h1) x1 with ⟨p, a1, a2, a3⟩ | ⟨a1, a3⟩
  · subst a2
    rw [mh_b2_eq a3, if_neg (by decide)]
    have bad : (∀ s, s ≤ 3000 → x2 ≠ nI s) → ∃ r v h' F', f_X12_ways_b30 (bd 0) h1 = some (v, h') ∧ mh_Qm σ (nI p) (mh_Bways x2) r ∧ mh_an r v F' ∧ mh_RI h' bd σ F' ∧ mh_frR bd h h' := fun hb => by
      obtain ⟨h2, F2, y1, R2, z2, f2⟩ := mh_r_fl R1 2 (fun v12 h11 => some ((v12).toInt64, h11))
      exact ⟨.inl 2, _, h2, F2, y1, Or.inr ⟨p, a1, rfl, Or.inr ⟨hb, rfl⟩⟩, Or.inr ⟨2, rfl, z2⟩, R2, f1.trans f2⟩
    rcases mh_sgn x2 with ⟨q1, q2⟩ | ⟨q1, s, q2, q3⟩
    · rw [if_pos q1]
      exact bad (fun s hs => q2 s (by omega))
    · subst q3
      rw [if_neg q1]
      by_cases c : s < 3001
      · obtain ⟨g, hg, hw⟩ := R1.2 1 (by omega)
        obtain ⟨w1, w2, w3, w4, _⟩ := hw p a1
        obtain ⟨h2, y1, R2, W2, f2⟩ := mh_r_countM R1 a1
        obtain ⟨g', hg', hw'⟩ := R2.2 1 (by omega)
        have w3' := (hw' p a1).2.2.1
        obtain ⟨G, v1, v2, v3⟩ := W2
        have hl := w1.1.1
        have hcap : mh_CAP = 4000000000000000001 := rfl
        have wl := mh_wy_le (mh_mi σ p) (mh_mi σ p).length s
        rw [if_pos ((mh_ltr (b := 3001) 3001 rfl (by omega) (by omega)).mpr c), mh_gR_eq (k := 1) R1.ob rfl, Option.bind_some, mh_b2_eq mh_r_mintAt, mh_gR_eq (k := 1) R1.ob rfl, Option.bind_some, mh_b2_eq mh_r_mintAt, mh_aI_eq hg (show 13 * p < 304 by omega) (by omega), Option.bind_some, w3, nI_1, mh_cal_eq R1.ob, y1, Option.bind_some, mh_gR_eq (k := 12) R2.ob rfl, Option.bind_some, mh_gR_eq (k := 1) R2.ob rfl, Option.bind_some, mh_b2_eq mh_r_mintAt, mh_aI_eq hg' (show 13 * p < 304 by omega) (by omega), Option.bind_some, w3', mh_aR_eq v1 (show (mh_mi σ p).length < 13 by omega) (by omega) rfl, Option.bind_some, mh_aJ_eq (v2 _ (by omega)) (show s < 3001 by omega) (by omega), Option.bind_some, v3 _ (Nat.le_refl _) s (by omega)]
        have fin : ∀ v, v = mh_cw (mh_mi σ p) s → ∃ r v' h' F', some (v, h2) = some (v', h') ∧ mh_Qm σ (nI p) (mh_Bways (nI s)) r ∧ mh_an r v' F' ∧ mh_RI h' bd σ F' ∧ mh_frR bd h h' := fun v hv => ⟨.inr v, v, h2, F1, rfl, Or.inr ⟨p, a1, rfl, Or.inl ⟨s, by omega, rfl, by rw [hv]; rfl⟩⟩, Or.inl ⟨rfl, z1⟩, R2, f1.trans f2⟩
        by_cases c2 : mh_wy (mh_mi σ p) (mh_mi σ p).length s ≤ 4000000000000000000
        · rw [if_pos (show lg_cmp (lN (mh_wy (mh_mi σ p) (mh_mi σ p).length s)) (4000000000000000000 : Int64) ≤ 0 from (mh_cleN (b := 4000000000000000000) (by omega) (by omega)).mpr c2)]
          exact fin _ (by unfold mh_cw; rw [if_pos c2])
        · rw [if_neg (fun q : lg_cmp (lN (mh_wy (mh_mi σ p) (mh_mi σ p).length s)) (4000000000000000000 : Int64) ≤ 0 => c2 ((mh_cleN (b := 4000000000000000000) (by omega) (by omega)).mp q))]
          exact fin _ (by unfold mh_cw; rw [if_neg c2])
      · rw [if_neg (fun q => c ((mh_ltr (b := 3001) 3001 rfl (by omega) (by omega)).mp q))]
        refine bad (fun t ht e => c ?_)
        have := (nI_eq (by omega) (by omega)).mp e
        omega
  · obtain ⟨h2, F2, y1, R2, z2, f2⟩ := mh_r_fl R1 1 (fun v12 h11 => some ((v12).toInt64, h11))
    have y1 : mh_b2 (mh_cal h1 (bd 0) 12 (f_X12_fail_e (bd 0) (1 : Int32) h1)) _ = _ := y1
    rw [mh_b2_eq a3, if_pos rfl, y1]
    exact ⟨.inl 1, _, h2, F2, rfl, Or.inl ⟨a1, rfl⟩, Or.inr ⟨1, rfl, z2⟩, R2, f1.trans f2⟩
end MhModelW
