/-- what the reference keeps of the fewest payings of the coins cs -/
def mh_Tb (h : mh_H) (bd : Nat → Nat) (F : Nat → Int32) (cs : List Nat) : Prop := F 7 = nI cs.length ∧ ∃ fb G, h (bd 24) = some (.inl (0, 12, .inl fb)) ∧ mh_Oi h (bd 25) (fun j => bd (26 + j)) 13 ∧ mh_Ri h (fun j => bd (26 + j)) 13 100301 G ∧ (∀ i, i < cs.length → fb i = nI (cs.getD i 0)) ∧ ∀ j, j ≤ cs.length → ∀ s, s ≤ 100300 → G j s = nI (mh_nv (mh_mn (cs.take j) s))
section MhModelT2
variable {h : mh_H} {bd : Nat → Nat} {σ : mh_Sg} {F : Nat → Int32}
/-- the rows one after another -/
theorem mh_r_rows {cs : List Nat} {fb : Nat → Int32} {G0 : Nat → Nat → Int32} (hI : mh_Inj bd 99) (hm : mh_ms cs) (ho : h (bd 0) = some (.inr (12, mh_rf bd F))) (h7 : F 7 = nI cs.length) (hb : h (bd 24) = some (.inl (0, 12, .inl fb))) (hfb : ∀ i, i < cs.length → fb i = nI (cs.getD i 0)) (hO : mh_Oi h (bd 25) (fun j => bd (26 + j)) 13) (hr : mh_Ri h (fun j => bd (26 + j)) 13 100301 G0) (hg0 : ∀ s, s ≤ 100300 → G0 0 s = nI (mh_nv (mh_mn [] s))) : ∃ h' G, f_X12_table_b165 mh_fu (bd 0) 1 h = some h' ∧ (∀ b, (∀ y, 27 ≤ y → y < 39 → b ≠ bd y) → h' b = h b) ∧ mh_Ri h' (fun j => bd (26 + j)) 13 100301 G ∧ ∀ j, j ≤ cs.length → ∀ s, s ≤ 100300 → G j s = nI (mh_nv (mh_mn (cs.take j) s)) := by
  have hl := hm.1.1
  have key := mh_wh (fun m (q : Nat × mh_H) => f_X12_table_b165 m (bd 0) (nI q.1) q.2) (fun (r : mh_H) => some r) (fun q => 1 ≤ q.1 ∧ q.1 ≤ cs.length + 1 ∧ (∀ b, (∀ y, 27 ≤ y → y < 39 → b ≠ bd y) → q.2 b = h b) ∧ ∃ G, mh_Ri q.2 (fun j => bd (26 + j)) 13 100301 G ∧ ∀ j, j < q.1 → ∀ s, s ≤ 100300 → G j s = nI (mh_nv (mh_mn (cs.take j) s))) (fun q => cs.length + 1 - q.1) (fun r => (∀ b, (∀ y, 27 ≤ y → y < 39 → b ≠ bd y) → r b = h b) ∧ ∃ G, mh_Ri r (fun j => bd (26 + j)) 13 100301 G ∧ ∀ j, j ≤ cs.length → ∀ s, s ≤ 100300 → G j s = nI (mh_nv (mh_mn (cs.take j) s)))
    (fun m q hq => by
      obtain ⟨j, hh⟩ := q
      obtain ⟨q0, q1, q2, G, q3, q4⟩ := hq
      have q0 : 1 ≤ j := q0
      have q1 : j ≤ cs.length + 1 := q1
      have q2 : ∀ b, (∀ y, 27 ≤ y → y < 39 → b ≠ bd y) → hh b = h b := q2
      have q3 : mh_Ri hh (fun j => bd (26 + j)) 13 100301 G := q3
      have q4 : ∀ i, i < j → ∀ s, s ≤ 100300 → G i s = nI (mh_nv (mh_mn (cs.take i) s)) := q4
      show (∃ s', _ ∧ _ ∧ f_X12_table_b165 (m + 1) (bd 0) (nI j) hh = _) ∨ ∃ r, _ ∧ f_X12_table_b165 (m + 1) (bd 0) (nI j) hh = _
      have kp : ∀ y, y < 26 → hh (bd y) = h (bd y) := fun y hy => q2 _ (fun z z1 z2 => hI.ne (by omega) (by omega) (by omega))
      have ho' := (kp 0 (by omega)).trans ho
      have hb' := (kp 24 (by omega)).trans hb
      have hO' : mh_Oi hh (bd 25) (fun j => bd (26 + j)) 13 := (kp 25 (by omega)).trans hO
      rw [f_X12_table_b165, mh_gI_eq (k := 7) ho' rfl, Option.bind_some, h7]
      by_cases hlt : j ≤ cs.length
      · left
        obtain ⟨i, ei⟩ : ∃ i, j = i + 1 := ⟨j - 1, by omega⟩
        subst ei
        have e1 : nI (i + 1) - (1 : Int32) = nI i := pk_sub (b := 1) (by omega)
        obtain ⟨h', g', y1, y2, y3, y4⟩ := mh_r_row (h := hh) (F := F) (f_X12_table_b165 m) (j := i) hI hm (by omega) ho' hO' (q3 i (by omega)) (fun s hs => q4 i (by omega) s hs) (q3 (i + 1) (by omega))
        refine ⟨(i + 1 + 1, h'), ⟨by show 1 ≤ i + 1 + 1; omega, by show i + 1 + 1 ≤ _; omega, fun b hb => (y4 b (by simp [hb (26 + (i + 1)) (by omega) (by omega)])).trans (q2 b hb), fun z => if z = i + 1 then g' else G z, fun z hz => ?_, fun z hz s hs => ?_⟩, by show cs.length + 1 - (i + 1 + 1) < cs.length + 1 - (i + 1); omega, ?_⟩
        · show h' (bd (26 + z)) = some (.inl (0, 100301, .inl (if z = i + 1 then g' else G z)))
          by_cases e : z = i + 1
          · rw [if_pos e, e]; exact y2
          · rw [if_neg e]
            exact (y4 _ (by simp [hI.ne (show 26 + z < 99 by omega) (show 26 + (i + 1) < 99 by omega) (by omega)])).trans (q3 z hz)
        · have hz : z < i + 1 + 1 := hz
          show (if z = i + 1 then g' else G z) s = _
          by_cases e : z = i + 1
          · rw [if_pos e, e]; exact y3 s hs
          · rw [if_neg e]; exact q4 z (by omega) s hs
        · rw [if_neg (fun q => absurd ((nI_ltI (by omega) (by omega)).mp q) (by omega)), mh_gR_eq (k := 6) ho' rfl, Option.bind_some, e1, mh_aI_eq hb' (show i < 12 by omega) (by omega), Option.bind_some, mh_nm_eq, hfb i (by omega), y1]
          unfold f_X12_table_b272
          rw [mh_nm_eq, mh_inc]
      · right
        exact ⟨hh, ⟨q2, G, q3, fun z hz s hs => q4 z (by omega) s hs⟩, by rw [if_pos ((nI_ltI (by omega) (by omega)).mpr (by omega))]; rfl⟩)
    13 mh_fu (1, h) (by show cs.length + 1 - 1 ≤ 13; omega) ⟨Nat.le_refl _, by show 1 ≤ cs.length + 1; omega, fun _ _ => rfl, G0, hr, fun j hj s hs => by
      have hj : j < 1 := hj
      have : j = 0 := by omega
      subst this
      exact hg0 s hs⟩ (mh_fuel _ (by omega))
  obtain ⟨r, ⟨z1, G, z2, z3⟩, z4⟩ := key
  exact ⟨r, G, z4, z1, z2, z3⟩
/-- the base is what the mint has -/
theorem mh_r_base {cs : List Nat} {fb g : Nat → Int32} {a : Nat} (hI : mh_Inj bd 99) (hl : cs.length ≤ 12) (ha : a + 13 ≤ 304) (ho : h (bd 0) = some (.inr (12, mh_rf bd F))) (h7 : F 7 = nI cs.length) (hb : h (bd 24) = some (.inl (0, 12, .inl fb))) (hg : h (bd 1) = some (.inl (0, 304, .inl g))) (hgv : ∀ i, i < cs.length → g (a + 1 + i) = nI (cs.getD i 0)) : ∃ h' fb', f_X12_table_b93 mh_fu (bd 0) (nI a) 0 h = f_X12_table_b126 (bd 0) h' ∧ h' (bd 24) = some (.inl (0, 12, .inl fb')) ∧ mh_fr [bd 24] h h' ∧ ∀ i, i < cs.length → fb' i = nI (cs.getD i 0) := by
  have key := mh_wh (fun m (q : Nat × mh_H) => f_X12_table_b93 m (bd 0) (nI a) (nI q.1) q.2) (fun (r : mh_H) => f_X12_table_b126 (bd 0) r) (fun q => q.1 ≤ cs.length ∧ mh_fr [bd 24] h q.2 ∧ ∃ fb', q.2 (bd 24) = some (.inl (0, 12, .inl fb')) ∧ ∀ i, i < q.1 → fb' i = nI (cs.getD i 0)) (fun q => cs.length - q.1) (fun r => mh_fr [bd 24] h r ∧ ∃ fb', r (bd 24) = some (.inl (0, 12, .inl fb')) ∧ ∀ i, i < cs.length → fb' i = nI (cs.getD i 0))
    (fun m q hq => by
      obtain ⟨k, hh⟩ := q
      obtain ⟨q1, q2, fb', q3, q4⟩ := hq
      have q1 : k ≤ cs.length := q1
      have q2 : mh_fr [bd 24] h hh := q2
      have q3 : hh (bd 24) = some (.inl (0, 12, .inl fb')) := q3
      have q4 : ∀ i, i < k → fb' i = nI (cs.getD i 0) := q4
      show (∃ s', _ ∧ _ ∧ f_X12_table_b93 (m + 1) (bd 0) (nI a) (nI k) hh = _) ∨ ∃ r, _ ∧ f_X12_table_b93 (m + 1) (bd 0) (nI a) (nI k) hh = _
      have kp : ∀ y, y < 24 → hh (bd y) = h (bd y) := fun y hy => q2 _ (by simp [hI.ne (show y < 99 by omega) (show 24 < 99 by omega) (by omega)])
      have ho' := (kp 0 (by omega)).trans ho
      have hg' := (kp 1 (by omega)).trans hg
      rw [f_X12_table_b93, mh_gI_eq (k := 7) ho' rfl, Option.bind_some, h7]
      by_cases hlt : k < cs.length
      · left
        have e1 : nI a + (1 : Int32) + nI k = nI (a + 1 + k) := by rw [nI_1, nI_add]
        refine ⟨(k + 1, mh_up hh (bd 24) (.inl (0, 12, .inl (upd fb' k (nI (cs.getD k 0)))))), ⟨hlt, q2.trans (mh_fr.up List.mem_cons_self), _, mh_up_eq _ _ _, fun i hi => ?_⟩, by show cs.length - (k + 1) < cs.length - k; omega, ?_⟩
        · have hi : i < k + 1 := hi
          by_cases e : i = k
          · rw [e, pk_us]
          · rw [pk_un e]; exact q4 i (by omega)
        · rw [if_neg (fun q => absurd ((nI_leI (by omega) (by omega)).mp q) (by omega)), mh_gR_eq (k := 6) ho' rfl, Option.bind_some, mh_gR_eq (k := 1) ho' rfl, Option.bind_some, e1, mh_aI_eq hg' (show a + 1 + k < 304 by omega) (by omega), Option.bind_some, hgv k hlt, mh_sI_eq q3 (by omega) (by omega), Option.bind_some, mh_nm_eq, mh_inc]
      · right
        have e : k = cs.length := by omega
        subst e
        exact ⟨hh, ⟨q2, fb', q3, q4⟩, by rw [if_pos ((nI_leI (by omega) (by omega)).mpr (by omega))]⟩)
    12 mh_fu (0, h) (by show cs.length - 0 ≤ 12; omega) ⟨Nat.zero_le _, mh_fr.rfl, fb, hb, fun t ht => absurd ht (Nat.not_lt_zero t)⟩ (mh_fuel _ (by omega))
  obtain ⟨r, ⟨z1, fb', z2, z3⟩, z4⟩ := key
  exact ⟨r, fb', z4, z2, z1, z3⟩
theorem mh_r_table (hR : mh_RI h bd σ F) {p : Nat} (hp : p < 8) : ∃ h' F', f_X12_table_e (bd 0) (nI p) h = some h' ∧ mh_RI h' bd σ F' ∧ F' 0 = F 0 ∧ mh_Tb h' bd F' (mh_mi σ p) ∧ mh_frR bd h h' := by
  obtain ⟨g, hg, hw⟩ := hR.2 1 (by omega)
  obtain ⟨fb, G, t1, t2, t3, t4⟩ := hR.2 3 (by omega)
  obtain ⟨w1, w2, w3, w4, _⟩ := hw p hp
  obtain ⟨cs, ecs⟩ : ∃ cs, cs = mh_mi σ p := ⟨_, rfl⟩
  rw [← ecs] at w1 w3 w4 ⊢
  have hl := w1.1.1
  have hI := hR.1
  have ho := hR.ob
  -- build anew
  have build : ∃ h' F', f_X12_table_b75 (bd 0) (nI (13 * p)) 0 h = some h' ∧ mh_RI h' bd σ F' ∧ F' 0 = F 0 ∧ mh_Tb h' bd F' cs ∧ mh_frR bd h h' := by
    obtain ⟨h1, e1⟩ : ∃ h1, h1 = mh_up h (bd 0) (.inr (12, mh_rf bd (upd F 7 (nI cs.length)))) := ⟨_, rfl⟩
    have p1 : mh_pI h (bd 0) 12 7 (nI cs.length) = some h1 := by rw [e1]; exact mh_pI_s _ ho ⟨show 7 < 38 by omega, rfl⟩
    have o1 : h1 (bd 0) = some (.inr (12, mh_rf bd (upd F 7 (nI cs.length)))) := by rw [e1]; exact mh_up_eq _ _ _
    have k1 : ∀ b, b ≠ bd 0 → h1 b = h b := fun b hb => by rw [e1]; exact mh_up_ne hb
    have k1' : ∀ y, y < 99 → y ≠ 0 → h1 (bd y) = h (bd y) := fun y hy e => k1 _ (hI.ne hy (by omega) e)
    obtain ⟨h2, fb2, y1, y2, y3, y4⟩ := mh_r_base (h := h1) (F := upd F 7 (nI cs.length)) (cs := cs) (a := 13 * p) hI hl (by omega) o1 (by rfl) ((k1' 24 (by omega) (by omega)).trans t1) ((k1' 1 (by omega) (by omega)).trans hg) w4
    have k2 : ∀ y, y < 99 → y ≠ 24 → h2 (bd y) = h1 (bd y) := fun y hy e => y3 _ (by simp [hI.ne hy (show 24 < 99 by omega) e])
    obtain ⟨h3, g3, u1, u2, u3, u4⟩ := mh_r_row0 (h := h2) (F := upd F 7 (nI cs.length)) (gr := G 0) hI ((k2 0 (by omega) (by omega)).trans o1) ((k2 25 (by omega) (by omega)).trans ((k1' 25 (by omega) (by omega)).trans t2)) ((k2 26 (by omega) (by omega)).trans ((k1' 26 (by omega) (by omega)).trans (t3 0 (by omega))))
    have k3 : ∀ y, y < 99 → y ≠ 26 → h3 (bd y) = h2 (bd y) := fun y hy e => u4 _ (by simp [hI.ne hy (show 26 < 99 by omega) e])
    have o3 := (k3 0 (by omega) (by omega)).trans ((k2 0 (by omega) (by omega)).trans o1)
    have b3 := (k3 24 (by omega) (by omega)).trans y2
    have O3 : mh_Oi h3 (bd 25) (fun j => bd (26 + j)) 13 := (k3 25 (by omega) (by omega)).trans ((k2 25 (by omega) (by omega)).trans ((k1' 25 (by omega) (by omega)).trans t2))
    obtain ⟨h4, G4, v1, v2, v3, v4⟩ := mh_r_rows (h := h3) (F := upd F 7 (nI cs.length)) (cs := cs) (fb := fb2) (G0 := fun z => if z = 0 then g3 else G z) hI w1 o3 (by rfl) b3 y4 O3 (fun z hz => by
      show h3 (bd (26 + z)) = some (.inl (0, 100301, .inl (if z = 0 then g3 else G z)))
      by_cases e : z = 0
      · rw [if_pos e, e]; exact u2
      · rw [if_neg e]
        exact (k3 _ (by omega) (by omega)).trans ((k2 _ (by omega) (by omega)).trans ((k1' _ (by omega) (by omega)).trans (t3 z hz)))) (fun s hs => by
      show (if 0 = 0 then g3 else G 0) s = _
      rw [if_pos rfl]
      exact u3 s hs)
    have k4 : ∀ y, y < 27 → h4 (bd y) = h3 (bd y) := fun y hy => v2 _ (fun z z1 z2 => hI.ne (by omega) (by omega) (by omega))
    have O4 : mh_Oi h4 (bd 25) (fun j => bd (26 + j)) 13 := (k4 25 (by omega)).trans O3
    have b4 := (k4 24 (by omega)).trans b3
    obtain ⟨i1, i2, i3, i4, i5⟩ := hR.ii
    obtain ⟨z1, z2⟩ := hR.mul (h' := h4) (σ' := σ) (F' := upd F 7 (nI cs.length)) [0, 3] (fun i hi => by simp only [List.mem_cons, List.not_mem_nil, or_false] at hi; omega) (fun b hb => by
      have d0 : b ≠ bd 0 := hb 0 (by decide) 0 (by decide) (by decide)
      have d3 : ∀ k, 24 ≤ k → k < 39 → b ≠ bd k := fun k k1 k2 => hb 3 (by decide) k k1 k2
      exact (v2 b (fun y y1 y2 => d3 y (by omega) (by omega))).trans ((u4 b (by simp [d3 26 (by omega) (by omega)])).trans ((y3 b (by simp [d3 24 (by omega) (by omega)])).trans (k1 b d0)))) (fun i hi => by
      simp only [List.mem_cons, List.not_mem_nil, or_false] at hi
      rcases hi with rfl | rfl
      · exact ⟨(k4 0 (by omega)).trans o3, i1, i2, i3, i4, i5⟩
      · exact ⟨fb2, G4, b4, O4, v3, Or.inr ⟨cs, w1, rfl, y4, v4⟩⟩) (fun j hj hn hc => by
      simp only [List.mem_cons, List.not_mem_nil, or_false] at hn
      obtain rfl | rfl | rfl | rfl | rfl | rfl | rfl | rfl | rfl : j = 1 ∨ j = 2 ∨ j = 4 ∨ j = 5 ∨ j = 6 ∨ j = 7 ∨ j = 8 ∨ j = 9 ∨ j = 10 := by omega
      all_goals exact hc)
    refine ⟨h4, upd F 7 (nI cs.length), ?_, z1, rfl, ⟨rfl, fb2, G4, b4, O4, v3, y4, v4⟩, z2⟩
    unfold f_X12_table_b75
    rw [if_pos rfl, mh_gR_eq (k := 1) ho rfl, Option.bind_some, mh_aI_eq hg (show 13 * p < 304 by omega) (by omega), Option.bind_some, w3, p1, Option.bind_some, mh_nm_eq, y1]
    unfold f_X12_table_b126
    rw [mh_nm_eq, u1]
    unfold f_X12_table_b162
    rw [mh_nm_eq, v1]
  -- compare
  have cmp : ∀ t, t ≤ 1 → (t = 1 → F 7 = nI cs.length) → ∃ h' F', f_X12_table_b27 mh_fu (bd 0) (nI (13 * p)) (nI t) 0 h = some h' ∧ mh_RI h' bd σ F' ∧ F' 0 = F 0 ∧ mh_Tb h' bd F' cs ∧ mh_frR bd h h' := fun t ht1 ht => by
    have key := mh_wh (fun m (q : Nat × Nat) => f_X12_table_b27 m (bd 0) (nI (13 * p)) (nI q.2) (nI q.1) h) (fun (r : Nat) => f_X12_table_b75 (bd 0) (nI (13 * p)) (nI r) h) (fun q => q.1 ≤ cs.length ∧ q.2 ≤ 1 ∧ (q.2 = 1 → F 7 = nI cs.length ∧ ∀ i, i < q.1 → fb i = nI (cs.getD i 0))) (fun q => cs.length - q.1) (fun r => r = 0 ∨ (r = 1 ∧ F 7 = nI cs.length ∧ ∀ i, i < cs.length → fb i = nI (cs.getD i 0)))
      (fun m q hq => by
        obtain ⟨k, t⟩ := q
        obtain ⟨q1, q2, q3⟩ := hq
        have q1 : k ≤ cs.length := q1
        have q2 : t ≤ 1 := q2
        have q3 : t = 1 → F 7 = nI cs.length ∧ ∀ i, i < k → fb i = nI (cs.getD i 0) := q3
        show (∃ s', _ ∧ _ ∧ f_X12_table_b27 (m + 1) (bd 0) (nI (13 * p)) (nI t) (nI k) h = _) ∨ ∃ r, _ ∧ f_X12_table_b27 (m + 1) (bd 0) (nI (13 * p)) (nI t) (nI k) h = _
        rw [f_X12_table_b27, mh_gR_eq (k := 1) ho rfl, Option.bind_some, mh_aI_eq hg (show 13 * p < 304 by omega) (by omega), Option.bind_some, w3]
        by_cases hlt : k < cs.length
        · rw [if_neg (fun q => absurd ((nI_leI (by omega) (by omega)).mp q) (by omega))]
          by_cases t0 : t = 0
          · subst t0
            right
            exact ⟨0, Or.inl rfl, by rw [if_pos (show nI 0 = 0 from rfl)]⟩
          · have t1' : t = 1 := by omega
            subst t1'
            left
            obtain ⟨q4, q5⟩ := q3 rfl
            have e1 : nI (13 * p) + (1 : Int32) + nI k = nI (13 * p + 1 + k) := by rw [nI_1, nI_add]
            rw [if_neg (show ¬ (nI 1 = 0) by decide), mh_gR_eq (k := 6) ho rfl, Option.bind_some, mh_aI_eq t1 (show k < 12 by omega) (by omega), Option.bind_some, Option.bind_some, e1, mh_aI_eq hg (show 13 * p + 1 + k < 304 by omega) (by omega), Option.bind_some, w4 k hlt]
            by_cases c : fb k = nI (cs.getD k 0)
            · rw [if_pos c]
              refine ⟨(k + 1, 1), ⟨hlt, Nat.le_refl _, fun _ => ⟨q4, fun i hi => ?_⟩⟩, by show cs.length - (k + 1) < cs.length - k; omega, ?_⟩
              · have hi : i < k + 1 := hi
                by_cases e : i = k
                · rw [e]; exact c
                · exact q5 i (by omega)
              · unfold f_X12_table_b68
                rw [mh_nm_eq, mh_inc]
                rfl
            · rw [if_neg c]
              refine ⟨(k + 1, 0), ⟨hlt, Nat.zero_le _, fun q => absurd q (show ¬ (0 = 1) by omega)⟩, by show cs.length - (k + 1) < cs.length - k; omega, ?_⟩
              unfold f_X12_table_b68
              rw [mh_nm_eq, mh_inc]
              rfl
        · right
          have e : k = cs.length := by omega
          subst e
          refine ⟨t, ?_, by rw [if_pos ((nI_leI (by omega) (by omega)).mpr (by omega))]⟩
          by_cases t0 : t = 0
          · exact Or.inl t0
          · exact Or.inr ⟨by omega, q3 (by omega)⟩)
      12 mh_fu (0, t) (by show cs.length - 0 ≤ 12; omega) ⟨Nat.zero_le _, ht1, fun q => ⟨ht q, fun i hi => absurd hi (Nat.not_lt_zero i)⟩⟩ (mh_fuel _ (by omega))
    obtain ⟨r, z1, z2⟩ := key
    have z2 : f_X12_table_b27 mh_fu (bd 0) (nI (13 * p)) (nI t) 0 h = f_X12_table_b75 (bd 0) (nI (13 * p)) (nI r) h := z2
    rw [z2]
    rcases z1 with z1 | ⟨z1, z3, z4⟩
    · subst z1
      exact build
    · subst z1
      refine ⟨h, F, ?_, hR, rfl, ⟨z3, fb, G, t1, t2, t3, z4, ?_⟩, mh_frR.rfl⟩
      · unfold f_X12_table_b75
        rw [if_neg (show ¬ (nI 1 = 0) by decide)]
      · rcases t4 with q | ⟨cs', m1, m2, m3, m4⟩
        · rw [q] at z3
          exact absurd (show (-1 : Int32) < 0 by decide) (by rw [z3]; exact nI_pos (by omega))
        · have l' := m1.1.1
          have el : cs.length = cs'.length := (nI_eq (by omega) (by omega)).mp (z3.symm.trans m2)
          have ec : cs' = cs := by
            refine List.ext_getElem el.symm (fun i h1 h2 => ?_)
            have a1 := m3 i h1
            have a2 := z4 i h2
            have b1 := m1.1.get h1
            have b2 := w1.1.get h2
            have := (nI_eq (by omega) (by omega)).mp (a1.symm.trans a2)
            rwa [List.getD_eq_getElem?_getD, List.getD_eq_getElem?_getD, List.getElem?_eq_getElem h1, List.getElem?_eq_getElem h2] at this
          rw [← ec]
          exact m4
  unfold f_X12_table_e
  rw [mh_b2_eq mh_r_mintAt, mh_gI_eq (k := 7) ho rfl, Option.bind_some, mh_gR_eq (k := 1) ho rfl, Option.bind_some, mh_aI_eq hg (show 13 * p < 304 by omega) (by omega), Option.bind_some, w3]
  by_cases c : F 7 = nI cs.length
  · rw [if_pos c]
    unfold f_X12_table_b23
    rw [mh_nm_eq]
    exact cmp 1 (Nat.le_refl _) (fun _ => c)
  · rw [if_neg c]
    unfold f_X12_table_b23
    rw [mh_nm_eq]
    exact cmp 0 (Nat.zero_le _) (fun q => absurd q (by omega))
end MhModelT2
