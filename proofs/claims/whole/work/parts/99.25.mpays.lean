section MhModelPy
variable {h : mh_H} {bd : Nat → Nat} {σ : mh_Sg} {F : Nat → Int32}
/-- a row of a purse's table from the row before -/
theorem mh_r_ft3 (k45 : Nat → Nat → Int32 → Int32 → Int32 → mh_H → Option mh_H) {w j : Nat} {x3 : Int32} {c n : List Nat} {g0 g1 : Nat → Int32} (hI : mh_Inj bd 99) (hw : w = 65 ∨ w = 79) (hz : mh_pz c n) (hj : j < c.length) (hO : mh_Oi h (bd w) (fun j => bd (w + 1 + j)) 13) (h0 : h (bd (w + 1 + j)) = some (.inl (0, 20001, .inl g0))) (hv : ∀ t, t ≤ 20000 → g0 t = nI (mh_Wv c n j t)) (h1 : h (bd (w + 1 + (j + 1))) = some (.inl (0, 20001, .inl g1))) : ∃ h' g, f_X12_fillTable_b94 k45 mh_fu (bd 0) (bd w) x3 (nI (mh_dot (c.take (j + 1)) (n.take (j + 1)))) (nI (j + 1)) (nI (c.getD j 0)) (nI (n.getD j 0)) 0 h = f_X12_fillTable_b194 k45 (bd 0) (bd w) x3 (nI (mh_dot (c.take (j + 1)) (n.take (j + 1)))) (nI (j + 1)) h' ∧ h' (bd (w + 1 + (j + 1))) = some (.inl (0, 20001, .inl g)) ∧ mh_fr [bd (w + 1 + (j + 1))] h h' ∧ ∀ s, s ≤ 20000 → g s = nI (mh_Wv c n (j + 1) s) := by
  have hl := hz.1.1.1
  have dm := mh_dot_mono hz.2.1 (c.length - (j + 1)) (j + 1) (by omega)
  have d2 := hz.2.2.2
  obtain ⟨h2, g2, y1, y2, y3, y4⟩ := mh_r_ft1 k45 (x3 := x3) (x4 := nI (mh_dot (c.take (j + 1)) (n.take (j + 1)))) (x6 := nI (c.getD j 0)) (x7 := nI (n.getD j 0)) (j := j + 1) hI hw (by omega) hO h1
  obtain ⟨hi, ehi⟩ : ∃ hi, hi = mh_dot (c.take (j + 1)) (n.take (j + 1)) := ⟨_, rfl⟩
  rw [← ehi] at y1 dm ⊢
  have k2 : ∀ y, y < 99 → y ≠ w + 1 + (j + 1) → h2 (bd y) = h (bd y) := fun y hy e => y3 _ (by simp [hI.ne hy (show w + 1 + (j + 1) < 99 by omega) e])
  have key := mh_wh (fun m (q : Nat × mh_H) => f_X12_fillTable_b120 k45 m (bd 0) (bd w) x3 (nI hi) (nI (j + 1)) (nI (c.getD j 0)) (nI (n.getD j 0)) (nI q.1) q.2) (fun (r : mh_H) => f_X12_fillTable_b194 k45 (bd 0) (bd w) x3 (nI hi) (nI (j + 1)) r) (fun q => q.1 ≤ hi + 1 ∧ mh_fr [bd (w + 1 + (j + 1))] h q.2 ∧ ∃ g, q.2 (bd (w + 1 + (j + 1))) = some (.inl (0, 20001, .inl g)) ∧ (∀ t, t < q.1 → g t = nI (mh_Wv c n (j + 1) t)) ∧ ∀ t, q.1 ≤ t → t ≤ 20000 → g t = nI 536870912) (fun q => hi + 1 - q.1) (fun r => mh_fr [bd (w + 1 + (j + 1))] h r ∧ ∃ g, r (bd (w + 1 + (j + 1))) = some (.inl (0, 20001, .inl g)) ∧ ∀ t, t ≤ 20000 → g t = nI (mh_Wv c n (j + 1) t))
    (fun m q hq => by
      obtain ⟨s, hh⟩ := q
      obtain ⟨q1, q2, g, q3, q4, q5⟩ := hq
      have q1 : s ≤ hi + 1 := q1
      have q2 : mh_fr [bd (w + 1 + (j + 1))] h hh := q2
      have q3 : hh (bd (w + 1 + (j + 1))) = some (.inl (0, 20001, .inl g)) := q3
      have q4 : ∀ t, t < s → g t = nI (mh_Wv c n (j + 1) t) := q4
      have q5 : ∀ t, s ≤ t → t ≤ 20000 → g t = nI 536870912 := q5
      show (∃ s', _ ∧ _ ∧ f_X12_fillTable_b120 k45 (m + 1) (bd 0) (bd w) x3 (nI hi) (nI (j + 1)) (nI (c.getD j 0)) (nI (n.getD j 0)) (nI s) hh = _) ∨ ∃ r, _ ∧ f_X12_fillTable_b120 k45 (m + 1) (bd 0) (bd w) x3 (nI hi) (nI (j + 1)) (nI (c.getD j 0)) (nI (n.getD j 0)) (nI s) hh = _
      have hO' : mh_Oi hh (bd w) (fun j => bd (w + 1 + j)) 13 := (q2 _ (by simp [hI.ne (show w < 99 by omega) (show w + 1 + (j + 1) < 99 by omega) (by omega)])).trans hO
      have h0' := (q2 _ (by simp [hI.ne (show w + 1 + j < 99 by omega) (show w + 1 + (j + 1) < 99 by omega) (by omega)])).trans h0
      rw [f_X12_fillTable_b120]
      by_cases c1 : s ≤ hi
      · left
        obtain ⟨h3, u1, u2, u3⟩ := mh_r_ft2 (h := hh) (f_X12_fillTable_b120 k45 m) (x3 := x3) (x4 := nI hi) hI hw hz hj (show s ≤ 20000 by omega) hO' h0' hv q3 (q5 s (Nat.le_refl _) (by omega))
        refine ⟨(s + 1, h3), ⟨by show s + 1 ≤ hi + 1; omega, q2.trans u3, _, u2, fun t ht => ?_, fun t ht hn => ?_⟩, by show hi + 1 - (s + 1) < hi + 1 - s; omega, ?_⟩
        · have ht : t < s + 1 := ht
          by_cases e : t = s
          · rw [e, pk_us]
          · rw [pk_un e]; exact q4 t (by omega)
        · have ht : s + 1 ≤ t := ht
          rw [pk_un (by omega)]; exact q5 t (by omega) hn
        · rw [if_neg (fun q => absurd ((nI_ltI (by omega) (by omega)).mp q) (by omega)), mh_nm_eq, u1]
          unfold f_X12_fillTable_b188
          rw [mh_nm_eq, mh_inc]
      · right
        refine ⟨hh, ⟨q2, g, q3, fun t ht => ?_⟩, by rw [if_pos ((nI_ltI (by omega) (by omega)).mpr (by omega))]⟩
        by_cases c2 : t < s
        · exact q4 t c2
        · rw [q5 t (by omega) ht, mh_Wv_is (mh_Vz_far hz (show j + 1 ≤ c.length by omega) (by rw [← ehi]; omega))])
    20001 mh_fu (0, h2) (by show hi + 1 - 0 ≤ 20001; omega) ⟨Nat.zero_le _, y3, g2, y2, fun t ht => absurd ht (Nat.not_lt_zero t), fun t _ ht => y4 t ht⟩ (mh_fuel _ (by omega))
  obtain ⟨h', ⟨z1, g, z2, z3⟩, z4⟩ := key
  have z4 : f_X12_fillTable_b120 k45 mh_fu (bd 0) (bd w) x3 (nI hi) (nI (j + 1)) (nI (c.getD j 0)) (nI (n.getD j 0)) 0 h2 = _ := z4
  refine ⟨h', g, ?_, z2, z1, z3⟩
  rw [y1]
  unfold f_X12_fillTable_b117
  rw [mh_nm_eq, z4]
theorem mh_r_fillT (hR : mh_RI h bd σ F) {p w : Nat} (hp : p < 8) (hw : w = 65 ∨ w = 79) : ∃ h', f_X12_fillTable_e (bd 0) (nI p) (bd w) h = some h' ∧ mh_RI h' bd σ F ∧ mh_Fb h' bd w (mh_pc σ p) (mh_pn σ p) ∧ mh_frR bd h h' ∧ ∀ b, (∀ y, w < y → y < w + 14 → b ≠ bd y) → h' b = h b := by
  obtain ⟨g, hg, hgw⟩ := hR.2 1 (by omega)
  obtain ⟨_, wz, _, _, w5, w6⟩ := hgw p hp
  obtain ⟨G1, G2, d1, d2, d3, d4⟩ := hR.2 9 (by omega)
  have hI := hR.1
  have ho := hR.ob
  obtain ⟨c, ec⟩ : ∃ c, c = mh_pc σ p := ⟨_, rfl⟩
  obtain ⟨n, en⟩ : ∃ n, n = mh_pn σ p := ⟨_, rfl⟩
  rw [← ec, ← en] at wz w6 ⊢
  rw [← ec] at w5
  have hl := wz.1.1.1
  obtain ⟨G, hO, hr⟩ : ∃ G, mh_Oi h (bd w) (fun j => bd (w + 1 + j)) 13 ∧ mh_Ri h (fun j => bd (w + 1 + j)) 13 20001 G := by
    rcases hw with q | q
    · subst q; exact ⟨G1, d1, d2⟩
    · subst q; exact ⟨G2, d3, d4⟩
  obtain ⟨h1, g1, y1, y2, y3, y4⟩ := mh_r_ft0 (x3 := nI (104 + 25 * p)) (c := c) (n := n) hI hw hO (hr 0 (by omega))
  have key := mh_wh (fun m (q : Nat × mh_H) => f_X12_fillTable_b45 m (bd 0) (bd w) (nI (104 + 25 * p)) (nI (mh_dot (c.take q.1) (n.take q.1))) (nI (q.1 + 1)) q.2) (fun (r : mh_H) => some r) (fun q => q.1 ≤ c.length ∧ (∀ b, (∀ y, w < y → y < w + 14 → b ≠ bd y) → q.2 b = h b) ∧ ∃ G, mh_Ri q.2 (fun j => bd (w + 1 + j)) 13 20001 G ∧ ∀ j, j ≤ q.1 → ∀ s, s ≤ 20000 → G j s = nI (mh_Wv c n j s)) (fun q => c.length - q.1) (fun r => (∀ b, (∀ y, w < y → y < w + 14 → b ≠ bd y) → r b = h b) ∧ ∃ G, mh_Ri r (fun j => bd (w + 1 + j)) 13 20001 G ∧ ∀ j, j ≤ c.length → ∀ s, s ≤ 20000 → G j s = nI (mh_Wv c n j s))
    (fun m q hq => by
      obtain ⟨j, hh⟩ := q
      obtain ⟨q1, q2, G, q3, q4⟩ := hq
      have q1 : j ≤ c.length := q1
      have q2 : ∀ b, (∀ y, w < y → y < w + 14 → b ≠ bd y) → hh b = h b := q2
      have q3 : mh_Ri hh (fun j => bd (w + 1 + j)) 13 20001 G := q3
      have q4 : ∀ i, i ≤ j → ∀ s, s ≤ 20000 → G i s = nI (mh_Wv c n i s) := q4
      show (∃ s', _ ∧ _ ∧ f_X12_fillTable_b45 (m + 1) (bd 0) (bd w) (nI (104 + 25 * p)) (nI (mh_dot (c.take j) (n.take j))) (nI (j + 1)) hh = _) ∨ ∃ r, _ ∧ f_X12_fillTable_b45 (m + 1) (bd 0) (bd w) (nI (104 + 25 * p)) (nI (mh_dot (c.take j) (n.take j))) (nI (j + 1)) hh = _
      have kp : ∀ y, y < 99 → y ≤ w → hh (bd y) = h (bd y) := fun y hy e => q2 _ (fun z z1 z2 => hI.ne hy (by omega) (by omega))
      have ho' := (kp 0 (by omega) (by omega)).trans ho
      have hg' := (kp 1 (by omega) (by omega)).trans hg
      have hO' : mh_Oi hh (bd w) (fun j => bd (w + 1 + j)) 13 := (kp w (by omega) (Nat.le_refl _)).trans hO
      rw [f_X12_fillTable_b45, mh_gR_eq (k := 1) ho' rfl, Option.bind_some, mh_aI_eq hg' (show 104 + 25 * p < 304 by omega) (by omega), Option.bind_some, w5]
      by_cases cj : j < c.length
      · left
        have e1 : nI (104 + 25 * p) + nI (j + 1) = nI (104 + 25 * p + 1 + j) := by rw [nI_add]; congr 1; omega
        have e12 : nI (104 + 25 * p) + (12 : Int32) + nI (j + 1) = nI (104 + 25 * p + 13 + j) := by rw [show (12 : Int32) = nI 12 from rfl, nI_add, nI_add]; congr 1; omega
        have edot : nI (mh_dot (c.take j) (n.take j)) + nI (c.getD j 0) * nI (n.getD j 0) = nI (mh_dot (c.take (j + 1)) (n.take (j + 1))) := by
          rw [mh_nI_mul, nI_add, mh_dot_take cj wz.2.1, Nat.mul_comm (c.getD j 0) (n.getD j 0)]
        obtain ⟨h', g', u1, u2, u3, u4⟩ := mh_r_ft3 (h := hh) (f_X12_fillTable_b45 m) (x3 := nI (104 + 25 * p)) hI hw wz cj hO' (q3 j (by omega)) (fun t ht => q4 j (Nat.le_refl _) t ht) (q3 (j + 1) (by omega))
        refine ⟨(j + 1, h'), ⟨cj, fun b hb => (u3 b (by simp [hb (w + 1 + (j + 1)) (by omega) (by omega)])).trans (q2 b hb), fun z => if z = j + 1 then g' else G z, fun z hz => ?_, fun z hz s hs => ?_⟩, by show c.length - (j + 1) < c.length - j; omega, ?_⟩
        · show h' (bd (w + 1 + z)) = some (.inl (0, 20001, .inl (if z = j + 1 then g' else G z)))
          by_cases e : z = j + 1
          · rw [if_pos e, e]; exact u2
          · rw [if_neg e]
            exact (u3 _ (by simp [hI.ne (show w + 1 + z < 99 by omega) (show w + 1 + (j + 1) < 99 by omega) (by omega)])).trans (q3 z hz)
        · have hz : z ≤ j + 1 := hz
          show (if z = j + 1 then g' else G z) s = _
          by_cases e : z = j + 1
          · rw [if_pos e, e]; exact u4 s hs
          · rw [if_neg e]; exact q4 z (by omega) s hs
        · rw [if_neg (fun q => absurd ((nI_ltI (by omega) (by omega)).mp q) (by omega)), Option.bind_some, e1, mh_aI_eq hg' (show 104 + 25 * p + 1 + j < 304 by omega) (by omega), Option.bind_some, Option.bind_some, e12, mh_aI_eq hg' (show 104 + 25 * p + 13 + j < 304 by omega) (by omega), Option.bind_some, (w6 j cj).1, (w6 j cj).2, mh_nm_eq, mh_nm_eq, edot, u1]
          unfold f_X12_fillTable_b194
          rw [mh_nm_eq, mh_inc]
      · right
        have e : j = c.length := by omega
        subst e
        exact ⟨hh, ⟨q2, G, q3, q4⟩, by rw [if_pos ((nI_ltI (by omega) (by omega)).mpr (by omega))]; rfl⟩)
    13 mh_fu (0, h1) (by show c.length - 0 ≤ 13; omega) ⟨Nat.zero_le _, fun b hb => y3 b (by simp [hb (w + 1) (by omega) (by omega)]), fun z => if z = 0 then g1 else G z, fun z hz => by
      show h1 (bd (w + 1 + z)) = some (.inl (0, 20001, .inl (if z = 0 then g1 else G z)))
      by_cases e : z = 0
      · rw [if_pos e, e]; exact y2
      · rw [if_neg e]
        exact (y3 _ (by simp [hI.ne (show w + 1 + z < 99 by omega) (show w + 1 < 99 by omega) (by omega)])).trans (hr z hz), fun j hj s hs => by
      have hj : j ≤ 0 := hj
      have e : j = 0 := by omega
      subst e
      show (if 0 = 0 then g1 else G 0) s = _
      rw [if_pos rfl]
      exact y4 s hs⟩ (mh_fuel _ (by omega))
  obtain ⟨h', ⟨z1, G', z2, z3⟩, z4⟩ := key
  have z4 : f_X12_fillTable_b45 mh_fu (bd 0) (bd w) (nI (104 + 25 * p)) 0 1 h1 = some h' := z4
  have O' : mh_Oi h' (bd w) (fun j => bd (w + 1 + j)) 13 := (z1 _ (fun y y1 y2 => hI.ne (by omega) (by omega) (by omega))).trans hO
  obtain ⟨R2, f2⟩ := hR.one (h' := h') 9 (by omega) (fun b hb => z1 b (fun y y1 y2 => hb y (by show 65 ≤ y; omega) (by show y < 93; omega))) (by
    rcases hw with q | q
    · subst q
      exact ⟨G', G2, O', z2, (z1 _ (fun y y1 y2 => hI.ne (by omega) (by omega) (by omega))).trans d3, fun j hj => (z1 _ (fun y y1 y2 => hI.ne (by omega) (by omega) (by omega))).trans (d4 j hj)⟩
    · subst q
      exact ⟨G1, G', (z1 _ (fun y y1 y2 => hI.ne (by omega) (by omega) (by omega))).trans d1, fun j hj => (z1 _ (fun y y1 y2 => hI.ne (by omega) (by omega) (by omega))).trans (d2 j hj), O', z2⟩)
  refine ⟨h', ?_, R2, ⟨G', O', z2, z3⟩, f2, z1⟩
  unfold f_X12_fillTable_e
  rw [mh_b2_eq mh_r_purseAt, mh_nm_eq, y1]
  unfold f_X12_fillTable_b39
  rw [mh_nm_eq, mh_nm_eq, z4]
theorem mh_bv_ex {c n : List Nat} (hz : mh_pz c n) {s : Nat} {ks : List Nat} (h : mh_vp c n s ks) : ∃ l, mh_bv c n s l := by
  obtain ⟨K, ⟨l, l1, l2⟩, h2⟩ := pk_least (fun K => ∃ l, mh_vp c n s l ∧ K = l.sum * mh_WH - mh_dg l) ⟨_, ks, h, rfl⟩
  refine ⟨l, l1, fun l' hl' => ?_⟩
  have a1 := mh_vp_dg hz l1
  have a2 := mh_vp_dg hz hl'
  have := Nat.le_of_not_lt (fun q => h2 (l'.sum * mh_WH - mh_dg l') q ⟨l', hl', rfl⟩)
  rw [l2] at this
  exact (mh_lex a1.1 a2.1 (mh_dg_le hz l1) (mh_dg_le hz hl')).mp this
theorem mh_vj_vp {c n : List Nat} {s : Nat} {ks : List Nat} : mh_vj c n c.length s ks ↔ mh_vp c n s ks := by
  unfold mh_vj mh_vp
  rw [List.take_length]
theorem mh_Wv_all {c n : List Nat} (hz : mh_pz c n) (s : Nat) : (mh_Wv c n c.length s = 536870912 ∧ ∀ ks, ¬ mh_vp c n s ks) ∨ ∃ ks, mh_bv c n s ks ∧ mh_Wv c n c.length s = ks.sum ∧ ks.sum ≤ 240 := by
  rcases mh_Wv_ok hz (Nat.le_refl _) s with ⟨a1, a2⟩ | ⟨a1, ks, a2, a3, a4⟩
  · exact Or.inl ⟨a1, fun ks hk => a2 ks (mh_vj_vp.mpr hk)⟩
  · obtain ⟨l, hl⟩ := mh_bv_ex hz (mh_vj_vp.mp a2)
    have b1 := a4 l (mh_vj_vp.mpr hl.1)
    have b2 := hl.2 ks (mh_vj_vp.mp a2)
    exact Or.inr ⟨l, hl, by omega, mh_vj_sum hz (Nat.le_refl _) (mh_vj_vp.mpr hl.1)⟩
theorem mh_M_pays (hR : mh_RI h bd σ F) (x1 x2 : Int32) : ∃ r v h' F', f_X12_pays_e (bd 0) x1 x2 h = some (v, h') ∧ mh_Qp σ x1 (mh_Bpays x2) r ∧ mh_an r v F' ∧ mh_RI h' bd σ F' ∧ mh_frR bd h h' := by
  obtain ⟨h1, F1, p1, R1, z1, f1⟩ := mh_r_code hR
  unfold f_X12_pays_e
  rw [p1, Option.bind_some]
  rcases mh_r_isMint (h := h1) x1 with ⟨p, a1, a2, a3⟩ | ⟨a1, a3⟩
  · subst a2
    obtain ⟨g, hg, hw⟩ := R1.2 1 (by omega)
    obtain ⟨_, wz, _, _, w5, w6⟩ := hw p a1
    have hl := wz.1.1.1
    have d2 := wz.2.2.2
    rw [mh_b2_eq a3, if_neg (by decide)]
    have good : ∀ r, mh_Bpays x2 (mh_pc σ p) (mh_pn σ p) r → mh_Qp σ (nI p) (mh_Bpays x2) r := fun r hr => Or.inr ⟨p, a1, rfl, hr⟩
    rcases mh_sgn x2 with ⟨q1, q2⟩ | ⟨q1, s, q2, q3⟩
    · rw [if_pos q1]
      exact ⟨.inr (-1), _, h1, F1, rfl, good _ (Or.inr ⟨fun s ks hs e => absurd e (q2 s hs), rfl⟩), Or.inl ⟨rfl, z1⟩, R1, f1⟩
    · subst q3
      rw [if_neg q1, mh_cal_eq R1.ob, mh_b2_eq (mh_r_allOf a1 R1.ob hg wz w5 w6)]
      by_cases c : s ≤ mh_dot (mh_pc σ p) (mh_pn σ p)
      · obtain ⟨h2, y1, R2, ⟨G, v1, v2, v3⟩, f2, _⟩ := mh_r_fillT R1 a1 (Or.inl (Eq.refl 65))
        obtain ⟨g', hg', hw'⟩ := R2.2 1 (by omega)
        have w5' := (hw' p a1).2.2.2.2.1
        rw [if_pos ((nI_leI (by omega) (by omega)).mpr c), mh_gR_eq (k := 30) R1.ob rfl, Option.bind_some, mh_cal_eq R1.ob, y1, Option.bind_some, mh_gR_eq (k := 30) R2.ob rfl, Option.bind_some, mh_gR_eq (k := 1) R2.ob rfl, Option.bind_some, mh_b2_eq mh_r_purseAt, mh_aI_eq hg' (show 104 + 25 * p < 304 by omega) (by omega), Option.bind_some, w5', mh_aR_eq v1 (show (mh_pc σ p).length < 13 by omega) (by omega) rfl, Option.bind_some, mh_aI_eq (v2 _ (by omega)) (show s < 20001 by omega) (by omega), Option.bind_some, v3 _ (Nat.le_refl _) s (by omega)]
        rcases mh_Wv_all wz s with ⟨e1, e2⟩ | ⟨ks, e1, e2, e3⟩
        · rw [e1, if_neg (by decide)]
          refine ⟨.inr (-1), _, h2, F1, rfl, good _ (Or.inr ⟨fun s' ks hs e => ?_, rfl⟩), Or.inl ⟨rfl, z1⟩, R2, f1.trans f2⟩
          rw [← (nI_eq (by omega) (by omega)).mp e]
          exact e2 ks
        · rw [e2, if_pos ((mh_ltr (b := 536870912) 536870912 rfl (by omega) (by omega)).mpr (by omega))]
          exact ⟨.inr (nI ks.sum), _, h2, F1, rfl, good _ (Or.inl ⟨s, ks, by omega, rfl, e1, rfl⟩), Or.inl ⟨rfl, z1⟩, R2, f1.trans f2⟩
      · rw [if_neg (fun q => c ((nI_leI (by omega) (by omega)).mp q))]
        refine ⟨.inr (-1), _, h1, F1, rfl, good _ (Or.inr ⟨fun s' ks hs e hk => ?_, rfl⟩), Or.inl ⟨rfl, z1⟩, R1, f1⟩
        have e' := (nI_eq (by omega) (by omega)).mp e
        have := mh_vp_le wz hk
        omega
  · obtain ⟨h2, F2, y1, R2, z2, f2⟩ := mh_r_fl R1 1 (fun v12 h11 => some (v12, h11))
    have y1 : mh_b2 (mh_cal h1 (bd 0) 12 (f_X12_fail_e (bd 0) (1 : Int32) h1)) _ = _ := y1
    rw [mh_b2_eq a3, if_pos rfl, y1]
    exact ⟨.inl 1, _, h2, F2, rfl, Or.inl ⟨a1, rfl⟩, Or.inr ⟨1, rfl, z2⟩, R2, f1.trans f2⟩
theorem mh_M_holes (hR : mh_RI h bd σ F) (x1 : Int32) : ∃ r v h' F', f_X12_holes_e (bd 0) x1 h = some (v, h') ∧ mh_Qp σ x1 mh_Bholes r ∧ mh_an r v F' ∧ mh_RI h' bd σ F' ∧ mh_frR bd h h' := by
  obtain ⟨h1, F1, p1, R1, z1, f1⟩ := mh_r_code hR
  unfold f_X12_holes_e
  rw [p1, Option.bind_some]
  rcases mh_r_isMint (h := h1) x1 with ⟨p, a1, a2, a3⟩ | ⟨a1, a3⟩
  · subst a2
    obtain ⟨h2, y1, R2, ⟨G, v1, v2, v3⟩, f2, _⟩ := mh_r_fillT R1 a1 (Or.inl (Eq.refl 65))
    obtain ⟨g, hg, hw⟩ := R2.2 1 (by omega)
    obtain ⟨_, wz, _, _, w5, w6⟩ := hw p a1
    have hl := wz.1.1.1
    have d2 := wz.2.2.2
    rw [mh_b2_eq a3, if_neg (by decide), mh_gR_eq (k := 30) R1.ob rfl, Option.bind_some, mh_cal_eq R1.ob, y1, Option.bind_some, mh_nm_eq, mh_cal_eq R2.ob, mh_b2_eq (mh_r_allOf a1 R2.ob hg wz w5 w6), mh_nm_eq]
    have good : ∀ v, v = nI (mh_cn (fun s => ∀ ks, ¬ mh_vp (mh_pc σ p) (mh_pn σ p) s ks) (mh_dot (mh_pc σ p) (mh_pn σ p) + 1)) → mh_Qp σ (nI p) mh_Bholes (.inr v) := fun v hv => Or.inr ⟨p, a1, rfl, by rw [hv]; rfl⟩
    obtain ⟨c, ec⟩ : ∃ c, c = mh_pc σ p := ⟨_, rfl⟩
    obtain ⟨n, en⟩ : ∃ n, n = mh_pn σ p := ⟨_, rfl⟩
    rw [← ec, ← en] at wz w6 d2 good v3 ⊢
    rw [← ec] at w5 hl
    obtain ⟨al, eal⟩ : ∃ al, al = mh_dot c n := ⟨_, rfl⟩
    rw [← eal] at d2 good ⊢
    have key := mh_wh (fun m (s : Nat) => f_X12_holes_b38 m (bd 0) (nI p) (nI (mh_cn (fun s => ∀ ks, ¬ mh_vp c n s ks) s)) (nI al) (nI s) h2) (fun (v : Int32) => some (v, h2)) (fun s => s ≤ al + 1) (fun s => al + 1 - s) (fun v => v = nI (mh_cn (fun s => ∀ ks, ¬ mh_vp c n s ks) (al + 1)))
      (fun m s hs => by
        show (∃ s', _ ∧ _ ∧ f_X12_holes_b38 (m + 1) (bd 0) (nI p) (nI (mh_cn (fun s => ∀ ks, ¬ mh_vp c n s ks) s)) (nI al) (nI s) h2 = _) ∨ ∃ r, _ ∧ f_X12_holes_b38 (m + 1) (bd 0) (nI p) (nI (mh_cn (fun s => ∀ ks, ¬ mh_vp c n s ks) s)) (nI al) (nI s) h2 = _
        rw [f_X12_holes_b38]
        by_cases cs : s ≤ al
        · left
          refine ⟨s + 1, by omega, by omega, ?_⟩
          rw [if_neg (fun q => absurd ((nI_ltI (by omega) (by omega)).mp q) (by omega)), mh_gR_eq (k := 30) R2.ob rfl, Option.bind_some, mh_gR_eq (k := 1) R2.ob rfl, Option.bind_some, mh_b2_eq mh_r_purseAt, mh_aI_eq hg (show 104 + 25 * p < 304 by omega) (by omega), Option.bind_some, w5, mh_aR_eq v1 (show c.length < 13 by omega) (by omega) rfl, Option.bind_some, mh_aI_eq (v2 _ (by omega)) (show s < 20001 by omega) (by omega), Option.bind_some, v3 _ (Nat.le_refl _) s (by omega)]
          rcases mh_Wv_all wz s with ⟨e1, e2⟩ | ⟨ks, e1, e2, e3⟩
          · rw [e1, if_neg (by decide), mh_cn_y (P := fun s => ∀ ks, ¬ mh_vp c n s ks) e2]
            unfold f_X12_holes_b72
            rw [mh_nm_eq, mh_nm_eq, mh_inc, nI_1]
          · rw [e2, if_pos ((mh_ltr (b := 536870912) 536870912 rfl (by omega) (by omega)).mpr (by omega)), mh_cn_n (P := fun s => ∀ ks, ¬ mh_vp c n s ks) (fun q => q ks e1.1)]
            unfold f_X12_holes_b72
            rw [mh_nm_eq, mh_nm_eq, mh_inc, Int32.add_zero]
        · right
          have e : s = al + 1 := by omega
          subst e
          exact ⟨_, rfl, by rw [if_pos ((nI_ltI (by omega) (by omega)).mpr (by omega))]; rfl⟩)
      20001 mh_fu 0 (by omega) (Nat.zero_le _) (mh_fuel _ (by omega))
    obtain ⟨v, k1, k2⟩ := key
    have k2 : f_X12_holes_b38 mh_fu (bd 0) (nI p) 0 (nI al) 0 h2 = some (v, h2) := k2
    rw [k2]
    exact ⟨.inr v, _, h2, F1, rfl, good _ k1, Or.inl ⟨rfl, z1⟩, R2, f1.trans f2⟩
  · obtain ⟨h2, F2, y1, R2, z2, f2⟩ := mh_r_fl R1 1 (fun v12 h11 => some (v12, h11))
    have y1 : mh_b2 (mh_cal h1 (bd 0) 12 (f_X12_fail_e (bd 0) (1 : Int32) h1)) _ = _ := y1
    rw [mh_b2_eq a3, if_pos rfl, y1]
    exact ⟨.inl 1, _, h2, F2, rfl, Or.inl ⟨a1, rfl⟩, Or.inr ⟨1, rfl, z2⟩, R2, f1.trans f2⟩
theorem mh_M_has (hR : mh_RI h bd σ F) (x1 x2 : Int32) : ∃ r v h' F', f_X12_has_e (bd 0) x1 x2 h = some (v, h') ∧ mh_Qp σ x1 (mh_Bhas x2) r ∧ mh_an r v F' ∧ mh_RI h' bd σ F' ∧ mh_frR bd h h' := by
  obtain ⟨h1, F1, p1, R1, z1, f1⟩ := mh_r_code hR
  unfold f_X12_has_e
  rw [p1, Option.bind_some]
  have bad : mh_Qp σ x1 (mh_Bhas x2) (.inl 1) → ∃ r v h' F', f_X12_has_b51 (bd 0) h1 = some (v, h') ∧ mh_Qp σ x1 (mh_Bhas x2) r ∧ mh_an r v F' ∧ mh_RI h' bd σ F' ∧ mh_frR bd h h' := fun hr => by
    obtain ⟨h2, F2, y1, R2, z2, f2⟩ := mh_r_fl R1 1 (fun v12 h11 => some (v12, h11))
    exact ⟨.inl 1, _, h2, F2, y1, hr, Or.inr ⟨1, rfl, z2⟩, R2, f1.trans f2⟩
  rcases mh_r_isMint (h := h1) x1 with ⟨p, a1, a2, a3⟩ | ⟨a1, a3⟩
  · subst a2
    obtain ⟨g, hg, hw⟩ := R1.2 1 (by omega)
    obtain ⟨_, wz, _, _, w5, w6⟩ := hw p a1
    have hl := wz.1.1.1
    have al := mh_r_allOf a1 R1.ob hg wz w5 w6
    have good : ∀ r, mh_Bhas x2 (mh_pc σ p) (mh_pn σ p) r → mh_Qp σ (nI p) (mh_Bhas x2) r := fun r hr => Or.inr ⟨p, a1, rfl, hr⟩
    have fin : ∀ v, mh_Bhas x2 (mh_pc σ p) (mh_pn σ p) (.inr v) → ∃ r v' h' F', some (v, h1) = some (v', h') ∧ mh_Qp σ (nI p) (mh_Bhas x2) r ∧ mh_an r v' F' ∧ mh_RI h' bd σ F' ∧ mh_frR bd h h' := fun v hv => ⟨.inr v, v, h1, F1, rfl, good _ hv, Or.inl ⟨rfl, z1⟩, R1, f1⟩
    rw [mh_b2_eq a3, if_neg (by decide), mh_gR_eq (k := 1) R1.ob rfl, Option.bind_some, mh_b2_eq mh_r_purseAt, mh_aI_eq hg (show 104 + 25 * p < 304 by omega) (by omega), Option.bind_some, w5]
    obtain ⟨c, ec⟩ : ∃ c, c = mh_pc σ p := ⟨_, rfl⟩
    obtain ⟨n, en⟩ : ∃ n, n = mh_pn σ p := ⟨_, rfl⟩
    rw [← ec, ← en] at wz w6 good fin al
    rw [← ec] at w5 hl ⊢
    rcases mh_sgn x2 with ⟨q1, q2⟩ | ⟨q1, s, q2, q3⟩
    · -- below nought
      have nle : ¬ nI c.length ≤ x2 := fun q => by
        have := Int32.lt_of_le_of_lt q q1
        exact nI_pos (by omega) this
      rw [if_neg nle]
      by_cases c3 : (-3 : Int32) < x2
      · rw [if_pos c3]
        unfold f_X12_has_b57
        rw [mh_b2_eq mh_r_purseAt]
        by_cases m1 : x2 = -1
        · rw [if_pos m1, mh_gR_eq (k := 1) R1.ob rfl, Option.bind_some, mh_aI_eq hg (show 104 + 25 * p < 304 by omega) (by omega), Option.bind_some, w5]
          exact fin _ (Or.inl ⟨m1, rfl⟩)
        · rw [if_neg m1]
          have m2 : x2 = -2 := by
            have h1 := Int32.lt_iff_toInt_lt.mp c3
            have h2 := Int32.lt_iff_toInt_lt.mp q1
            have h1 : (-3 : Int) < x2.toInt := h1
            have h2 : x2.toInt < 0 := h2
            have h3 : x2.toInt ≠ -1 := fun q => m1 (Int32.toInt_inj.mp q)
            exact Int32.toInt_inj.mp (show x2.toInt = -2 by omega)
          rw [if_pos m2, mh_cal_eq R1.ob, mh_b2_eq al]
          exact fin _ (Or.inr (Or.inl ⟨m2, rfl⟩))
      · obtain ⟨j, j1, j2, j3⟩ := mh_neg3 c3
        rw [if_neg c3, mh_gR_eq (k := 1) R1.ob rfl, Option.bind_some, mh_b2_eq mh_r_purseAt, mh_aI_eq hg (show 104 + 25 * p < 304 by omega) (by omega), Option.bind_some, w5, j3, nI_l (by omega)]
        by_cases cj : j < c.length
        · have nj := mh_m3n (show j < 12 by omega)
          rw [← j2] at nj
          rw [if_pos ((mh_cltN (by omega) (by omega)).mpr cj)]
          unfold f_X12_has_b57
          have n0 : ¬ 0 ≤ x2 := fun q => absurd (Int32.lt_of_lt_of_le q1 q) Int32.lt_irrefl
          have ei : nI (104 + 25 * p) + (1 : Int32) - (3 : Int32) - x2 = nI (104 + 25 * p + 1 + j) := by rw [j2, mh_i1, nI_1, nI_add]
          rw [mh_b2_eq mh_r_purseAt, if_neg nj.2.1, if_neg nj.2.2, if_neg n0, mh_gR_eq (k := 1) R1.ob rfl, Option.bind_some, ei, mh_aI_eq hg (show 104 + 25 * p + 1 + j < 304 by omega) (by omega), Option.bind_some, (w6 j cj).1]
          exact fin _ (Or.inr (Or.inr (Or.inr (Or.inl ⟨j, cj, j2, rfl⟩))))
        · rw [if_neg (fun q => cj ((mh_cltN (by omega) (by omega)).mp q))]
          refine bad (good _ (Or.inr (Or.inr (Or.inr (Or.inr ⟨fun q => c3 (by rw [q]; decide), fun q => c3 (by rw [q]; decide), fun i hi => ⟨q2 i (by omega), fun q => ?_⟩, rfl⟩)))))
          have e : nI j = nI i := by
            have := j2.symm.trans q
            have h2 : (-3 : Int32) - (-3 - nI j) = -3 - (-3 - nI i) := by rw [this]
            have h3 : ∀ w : Int32, (-3 : Int32) - (-3 - w) = w := fun w => by grind
            rwa [h3, h3] at h2
          have := (nI_eq (by omega) (by omega)).mp e
          omega
    · subst q3
      by_cases cs : c.length ≤ s
      · rw [if_pos ((nI_leI (by omega) (by omega)).mpr cs)]
        refine bad (good _ (Or.inr (Or.inr (Or.inr (Or.inr ⟨mh_nI_m1 q2, fun q => ?_, fun i hi => ⟨fun q => ?_, fun q => ?_⟩, rfl⟩)))))
        · exact q1 (by rw [q]; decide)
        · have := (nI_eq (by omega) (by omega)).mp q
          omega
        · exact q1 (by rw [q]; exact (mh_m3n (show i < 12 by omega)).1)
      · have c3 : (-3 : Int32) < nI s := Int32.lt_of_lt_of_le (by decide) (nI_pos' q2)
        have e13 : nI (104 + 25 * p) + (13 : Int32) + nI s = nI (104 + 25 * p + 13 + s) := by rw [show (13 : Int32) = nI 13 from rfl, nI_add, nI_add]
        rw [if_neg (fun q => cs ((nI_leI (by omega) (by omega)).mp q)), if_pos c3]
        unfold f_X12_has_b57
        rw [mh_b2_eq mh_r_purseAt, if_neg (mh_nI_m1 q2), if_neg (fun q => q1 (by rw [q]; decide)), if_pos (nI_pos' q2), mh_gR_eq (k := 1) R1.ob rfl, Option.bind_some, e13, mh_aI_eq hg (show 104 + 25 * p + 13 + s < 304 by omega) (by omega), Option.bind_some, (w6 s (by omega)).2]
        exact fin _ (Or.inr (Or.inr (Or.inl ⟨s, by omega, rfl, rfl⟩)))
  · rw [mh_b2_eq a3, if_pos rfl]
    exact bad (Or.inl ⟨a1, rfl⟩)
end MhModelPy
