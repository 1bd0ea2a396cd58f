/-! change: the payer gives, the taker gives back -/
def mh_Cp (c1 n1 c2 n2 : List Nat) (j s gv : Nat) (ks ms : List Nat) : Prop := mh_Sv n1 j ks ∧ mh_vp c2 n2 (mh_dot c2 ms) ms ∧ mh_dot (c1.take j) ks + gv = s + mh_dot c2 ms
def mh_Le (c1 n1 c2 n2 : List Nat) (j s gv v : Nat) : Prop := (v = 536870912 ∧ ∀ ks ms, ¬ mh_Cp c1 n1 c2 n2 j s gv ks ms) ∨ (v < 536870912 ∧ (∃ ks ms, mh_Cp c1 n1 c2 n2 j s gv ks ms ∧ ks.sum + ms.sum = v) ∧ ∀ ks ms, mh_Cp c1 n1 c2 n2 j s gv ks ms → v ≤ ks.sum + ms.sum)
theorem mh_lneg {a b : Nat} (h : a < b) (hb : b < 2 ^ 63) : lg_cmp (lN a - lN b) (0 : Int64) < 0 := by
  have q : lN a - lN b < 0 := by
    rw [Int64.lt_iff_toInt_lt, Int64.toInt_sub]
    unfold lN
    rw [Int64.toInt_ofNat_of_lt (by omega), Int64.toInt_ofNat_of_lt (by omega), Int.bmod_eq_of_le (by omega) (by omega)]
    show (a : Int) - b < 0
    omega
  exact (mh_clt _ _).mpr (fun z => z.elim (fun z => Int64.lt_irrefl (Int64.lt_trans q z)) (fun z => by rw [z] at q; exact Int64.lt_irrefl q))
theorem mh_Wv_lo {c n : List Nat} (hz : mh_pz c n) {j s : Nat} {ks : List Nat} (hj : j ≤ c.length) (h : mh_vj c n j s ks) : mh_Wv c n j s ≤ ks.sum := by
  rcases mh_Wv_ok hz hj s with ⟨a1, a2⟩ | ⟨a1, l, a2, a3, a4⟩
  · exact absurd h (a2 ks)
  · exact a4 ks h
section MhModelCh
variable {h : mh_H} {bd : Nat → Nat} {σ : mh_Sg} {F : Nat → Int32}
theorem mh_r_least {c1 n1 c2 n2 : List Nat} {g : Nat → Int32} {q j s gv : Nat} (hq : q < 8) (ho : h (bd 0) = some (.inr (12, mh_rf bd F))) (hg : h (bd 1) = some (.inl (0, 304, .inl g))) (z1 : mh_pz c1 n1) (z2 : mh_pz c2 n2) (g0 : g (104 + 25 * q) = nI c2.length) (g1 : ∀ i, i < c2.length → g (104 + 25 * q + 1 + i) = nI (c2.getD i 0) ∧ g (104 + 25 * q + 13 + i) = nI (n2.getD i 0)) (T1 : mh_Fb h bd 65 c1 n1) (T2 : mh_Fb h bd 79 c2 n2) (hj : j ≤ c1.length) (hs : s < 2 ^ 31) (hgv : gv ≤ 20000) : ∃ v, f_X12_least_e (bd 0) (nI j) (nI q) (lN s) (nI gv) h = some (nI v, h) ∧ mh_Le c1 n1 c2 n2 j s gv v := by
  have l1 := z1.1.1.1
  have l2 := z2.1.1.1
  obtain ⟨G1, u1, u2, u3⟩ := T1
  obtain ⟨G2, v1, v2, v3⟩ := T2
  have al := mh_r_allOf (F := F) hq ho hg z2 g0 g1
  have d2 := z2.2.2.2
  have dtake : ∀ ks, mh_Sv n1 j ks → mh_dot (c1.take j) ks ≤ 20000 := fun ks hks => by
    have a := mh_Sv_dot z1.2.1 j ks hj hks
    have b := mh_dot_mono z1.2.1 (c1.length - j) j (by omega)
    have := z1.2.2.2
    omega
  have key := mh_wh (fun m (r : Nat × Nat) => f_X12_least_b25 m (bd 0) (nI j) (lN s) (nI gv) (nI r.2) (nI (mh_dot c2 n2)) (nI c2.length) (nI r.1) h) (fun (v : Nat) => some (nI v, h)) (fun r => r.1 ≤ mh_dot c2 n2 + 1 ∧ r.2 ≤ 536870912 ∧ (∀ ks ms, mh_Cp c1 n1 c2 n2 j s gv ks ms → mh_dot c2 ms < r.1 → r.2 ≤ ks.sum + ms.sum) ∧ (r.2 = 536870912 ∨ ∃ ks ms, mh_Cp c1 n1 c2 n2 j s gv ks ms ∧ ks.sum + ms.sum = r.2)) (fun r => mh_dot c2 n2 + 1 - r.1) (fun v => mh_Le c1 n1 c2 n2 j s gv v)
    (fun m r hr => by
      obtain ⟨y, b⟩ := r
      obtain ⟨q1, q2, q3, q4⟩ := hr
      have q1 : y ≤ mh_dot c2 n2 + 1 := q1
      have q2 : b ≤ 536870912 := q2
      have q3 : ∀ ks ms, mh_Cp c1 n1 c2 n2 j s gv ks ms → mh_dot c2 ms < y → b ≤ ks.sum + ms.sum := q3
      have q4 : b = 536870912 ∨ ∃ ks ms, mh_Cp c1 n1 c2 n2 j s gv ks ms ∧ ks.sum + ms.sum = b := q4
      show (∃ s', _ ∧ _ ∧ f_X12_least_b25 (m + 1) (bd 0) (nI j) (lN s) (nI gv) (nI b) (nI (mh_dot c2 n2)) (nI c2.length) (nI y) h = _) ∨ ∃ r, _ ∧ f_X12_least_b25 (m + 1) (bd 0) (nI j) (lN s) (nI gv) (nI b) (nI (mh_dot c2 n2)) (nI c2.length) (nI y) h = _
      rw [f_X12_least_b25]
      by_cases cy : y ≤ mh_dot c2 n2
      · left
        -- nothing at this y
        have skip : (∀ ks ms, mh_Cp c1 n1 c2 n2 j s gv ks ms → mh_dot c2 ms ≠ y) → ∃ s' : Nat × Nat, (s'.1 ≤ mh_dot c2 n2 + 1 ∧ s'.2 ≤ 536870912 ∧ (∀ ks ms, mh_Cp c1 n1 c2 n2 j s gv ks ms → mh_dot c2 ms < s'.1 → s'.2 ≤ ks.sum + ms.sum) ∧ (s'.2 = 536870912 ∨ ∃ ks ms, mh_Cp c1 n1 c2 n2 j s gv ks ms ∧ ks.sum + ms.sum = s'.2)) ∧ mh_dot c2 n2 + 1 - s'.1 < mh_dot c2 n2 + 1 - y ∧ f_X12_least_b90 (f_X12_least_b25 m) (bd 0) (nI j) (lN s) (nI gv) (nI b) (nI (mh_dot c2 n2)) (nI c2.length) (nI y) h = f_X12_least_b25 m (bd 0) (nI j) (lN s) (nI gv) (nI s'.2) (nI (mh_dot c2 n2)) (nI c2.length) (nI s'.1) h := fun hn => by
          refine ⟨(y + 1, b), ⟨by show y + 1 ≤ _; omega, q2, fun ks ms hc hlt => ?_, q4⟩, by show mh_dot c2 n2 + 1 - (y + 1) < mh_dot c2 n2 + 1 - y; omega, ?_⟩
          · have hlt : mh_dot c2 ms < y + 1 := hlt
            have := hn ks ms hc
            exact q3 ks ms hc (by omega)
          · unfold f_X12_least_b90
            rw [mh_nm_eq, mh_inc]
        rw [if_neg (fun z => absurd ((nI_ltI (by omega) (by omega)).mp z) (by omega)), mh_nm_eq, nI_l (show y < 2 ^ 31 by omega), nI_l (show gv < 2 ^ 31 by omega), lN_add]
        by_cases cx : s + y < gv
        · rw [if_pos (mh_lneg cx (by omega))]
          exact skip (fun ks ms hc e => by have := hc.2.2; omega)
        · rw [lN_sub (by omega), if_neg (fun z : lg_cmp (lN (s + y - gv)) (0 : Int64) < 0 => absurd ((mh_cltN (b := 0) (by omega) (by omega)).mp z) (by omega))]
          by_cases cz : s + y - gv < 20001
          · have w1 := mh_Wv_le z1 hj (s + y - gv)
            have w2 := mh_Wv_le z2 (Nat.le_refl c2.length) y
            obtain ⟨b', eb⟩ : ∃ b', b' = if mh_Wv c1 n1 j (s + y - gv) + mh_Wv c2 n2 c2.length y < b then mh_Wv c1 n1 j (s + y - gv) + mh_Wv c2 n2 c2.length y else b := ⟨_, rfl⟩
            have e2 : (if nI (mh_Wv c1 n1 j (s + y - gv) + mh_Wv c2 n2 c2.length y) < nI b then nI (mh_Wv c1 n1 j (s + y - gv) + mh_Wv c2 n2 c2.length y) else nI b) = nI b' := by
              rw [eb]
              by_cases z : mh_Wv c1 n1 j (s + y - gv) + mh_Wv c2 n2 c2.length y < b
              · rw [if_pos z, if_pos ((nI_ltI (by omega) (by omega)).mpr z)]
              · rw [if_neg z, if_neg (fun t => z ((nI_ltI (by omega) (by omega)).mp t))]
            have lo : ∀ ks ms, mh_Cp c1 n1 c2 n2 j s gv ks ms → mh_dot c2 ms = y → mh_Wv c1 n1 j (s + y - gv) + mh_Wv c2 n2 c2.length y ≤ ks.sum + ms.sum := fun ks ms hc e => by
              have a1 := mh_Wv_lo z1 hj (s := s + y - gv) (ks := ks) ⟨hc.1, by have := hc.2.2; omega⟩
              have a2 := mh_Wv_lo z2 (Nat.le_refl c2.length) (s := y) (ks := ms) (mh_vj_vp.mpr (by have := hc.2.1; rwa [e] at this))
              omega
            refine ⟨(y + 1, b'), ⟨by show y + 1 ≤ _; omega, ?_, fun ks ms hc hlt => ?_, ?_⟩, by show mh_dot c2 n2 + 1 - (y + 1) < mh_dot c2 n2 + 1 - y; omega, ?_⟩
            · show b' ≤ 536870912
              rw [eb]; split <;> omega
            · have hlt : mh_dot c2 ms < y + 1 := hlt
              show b' ≤ _
              by_cases e : mh_dot c2 ms = y
              · have := lo ks ms hc e
                rw [eb]; split <;> omega
              · have := q3 ks ms hc (by omega)
                rw [eb]; split <;> omega
            · show b' = 536870912 ∨ ∃ ks ms, mh_Cp c1 n1 c2 n2 j s gv ks ms ∧ ks.sum + ms.sum = b'
              by_cases z : mh_Wv c1 n1 j (s + y - gv) + mh_Wv c2 n2 c2.length y < b
              · rw [if_pos z] at eb
                right
                rcases mh_Wv_ok z1 hj (s + y - gv) with ⟨t1, _⟩ | ⟨t1, ks, t2, t3, _⟩
                · omega
                · rcases mh_Wv_ok z2 (Nat.le_refl c2.length) y with ⟨r1, _⟩ | ⟨r1, ms, r2, r3, _⟩
                  · omega
                  · have r4 := mh_vj_vp.mp r2
                    exact ⟨ks, ms, ⟨t2.1, by rw [r4.2]; exact r4, by rw [t2.2, r4.2]; omega⟩, by omega⟩
              · rw [if_neg z] at eb
                rw [eb]; exact q4
            · rw [if_pos (show lg_cmp (lN (s + y - gv)) (20001 : Int64) < 0 from (mh_cltN (b := 20001) (by omega) (by omega)).mpr cz), mh_gR_eq (k := 30) ho rfl, Option.bind_some, mh_aR_eq u1 (show j < 13 by omega) (by omega) rfl, Option.bind_some, lN_i, mh_aI_eq (u2 j (by omega)) (show s + y - gv < 20001 by omega) (by omega), Option.bind_some, u3 j hj _ (by omega), mh_gR_eq (k := 31) ho rfl, Option.bind_some, mh_aR_eq v1 (show c2.length < 13 by omega) (by omega) rfl, Option.bind_some, mh_aI_eq (v2 c2.length (by omega)) (show y < 20001 by omega) (by omega), Option.bind_some, v3 _ (Nat.le_refl _) _ (by omega), nI_add, e2, mh_nm_eq]
              unfold f_X12_least_b90
              rw [mh_nm_eq, mh_inc]
          · rw [if_neg (fun z : lg_cmp (lN (s + y - gv)) (20001 : Int64) < 0 => cz ((mh_cltN (b := 20001) (by omega) (by omega)).mp z))]
            exact skip (fun ks ms hc e => by have := hc.2.2; have := dtake ks hc.1; omega)
      · right
        have ey : y = mh_dot c2 n2 + 1 := by omega
        have all : ∀ ks ms, mh_Cp c1 n1 c2 n2 j s gv ks ms → b ≤ ks.sum + ms.sum := fun ks ms hc => q3 ks ms hc (by have := mh_vp_le z2 hc.2.1; omega)
        refine ⟨b, ?_, by rw [if_pos ((nI_ltI (by omega) (by omega)).mpr (by omega))]; rfl⟩
        rcases q4 with z | ⟨ks, ms, z3, z4⟩
        · refine Or.inl ⟨z, fun ks ms hc => ?_⟩
          have a1 := mh_vj_sum z1 hj (s := mh_dot (c1.take j) ks) (ks := ks) ⟨hc.1, rfl⟩
          have a2 := mh_vj_sum z2 (Nat.le_refl c2.length) (mh_vj_vp.mpr hc.2.1)
          have := all ks ms hc
          omega
        · have a1 := mh_vj_sum z1 hj (s := mh_dot (c1.take j) ks) (ks := ks) ⟨z3.1, rfl⟩
          have a2 := mh_vj_sum z2 (Nat.le_refl c2.length) (mh_vj_vp.mpr z3.2.1)
          exact Or.inr ⟨by omega, ⟨ks, ms, z3, z4⟩, all⟩)
    20001 mh_fu (0, 536870912) (by show mh_dot c2 n2 + 1 - 0 ≤ 20001; omega) ⟨Nat.zero_le _, Nat.le_refl _, fun ks ms _ hlt => absurd hlt (Nat.not_lt_zero _), Or.inl rfl⟩ (mh_fuel _ (by omega))
  obtain ⟨v, k1, k2⟩ := key
  have k2 : f_X12_least_b25 mh_fu (bd 0) (nI j) (lN s) (nI gv) (536870912 : Int32) (nI (mh_dot c2 n2)) (nI c2.length) 0 h = some (nI v, h) := k2
  refine ⟨v, ?_, k1⟩
  unfold f_X12_least_e
  rw [mh_nm_eq, mh_cal_eq ho, mh_b2_eq al, mh_gR_eq (k := 1) ho rfl, Option.bind_some, mh_b2_eq mh_r_purseAt, mh_aI_eq hg (show 104 + 25 * q < 304 by omega) (by omega), Option.bind_some, g0, mh_nm_eq, k2]
/-- the told change, if there is one -/
theorem mh_cg_ex {c1 n1 c2 n2 : List Nat} (z1 : mh_pz c1 n1) (z2 : mh_pz c2 n2) {s : Nat} (h : ∃ ks ms, mh_vp c1 n1 (s + mh_dot c2 ms) ks ∧ mh_vp c2 n2 (mh_dot c2 ms) ms) : ∃ ks ms, mh_cg c1 n1 c2 n2 s ks ms := by
  obtain ⟨k0, m0, a0, b0⟩ := h
  obtain ⟨t, ⟨k1, m1, a1, b1, e1⟩, ht⟩ := pk_least (fun t => ∃ ks ms, mh_vp c1 n1 (s + mh_dot c2 ms) ks ∧ mh_vp c2 n2 (mh_dot c2 ms) ms ∧ ks.sum + ms.sum = t) ⟨_, k0, m0, a0, b0, rfl⟩
  obtain ⟨D, ⟨k2, m2, a2, b2, e2, f2⟩, hD⟩ := pk_least (fun D => ∃ ks ms, mh_vp c1 n1 (s + mh_dot c2 ms) ks ∧ mh_vp c2 n2 (mh_dot c2 ms) ms ∧ ks.sum + ms.sum = t ∧ D = mh_WH - mh_dg ks) ⟨_, k1, m1, a1, b1, e1, rfl⟩
  obtain ⟨E, ⟨k3, m3, a3, b3, e3, f3, g3⟩, hE⟩ := pk_least (fun E => ∃ ks ms, mh_vp c1 n1 (s + mh_dot c2 ms) ks ∧ mh_vp c2 n2 (mh_dot c2 ms) ms ∧ ks.sum + ms.sum = t ∧ mh_dg ks = mh_dg k2 ∧ E = mh_WH - mh_dg ms) ⟨_, k2, m2, a2, b2, e2, rfl, rfl⟩
  refine ⟨k3, m3, a3, b3, fun ks ms ha hb => ?_⟩
  have lt := Nat.le_of_not_lt (fun q => ht (ks.sum + ms.sum) q ⟨ks, ms, ha, hb, rfl⟩)
  by_cases c : ks.sum + ms.sum = t
  · right
    refine ⟨by omega, ?_⟩
    have d1 := mh_vp_dg z1 ha
    have d2 := mh_vp_dg z1 a2
    have d3 := mh_vp_dg z2 hb
    have d4 := mh_vp_dg z2 b3
    have le1 := Nat.le_of_not_lt (fun q => hD (mh_WH - mh_dg ks) q ⟨ks, ms, ha, hb, c, rfl⟩)
    by_cases c2 : mh_dg ks = mh_dg k2
    · have le2 := Nat.le_of_not_lt (fun q => hE (mh_WH - mh_dg ms) q ⟨ks, ms, ha, hb, c, c2, rfl⟩)
      exact Or.inr ⟨by omega, by omega⟩
    · exact Or.inl (by omega)
  · exact Or.inl (by omega)
theorem mh_Cp_all {c1 n1 c2 n2 : List Nat} {s : Nat} {ks ms : List Nat} : mh_Cp c1 n1 c2 n2 c1.length s 0 ks ms ↔ mh_vp c1 n1 (s + mh_dot c2 ms) ks ∧ mh_vp c2 n2 (mh_dot c2 ms) ms := by
  unfold mh_Cp
  rw [List.take_length, Nat.add_zero]
  exact ⟨fun h => ⟨⟨h.1, h.2.2⟩, h.2.1⟩, fun h => ⟨h.1.1, h.2, h.1.2⟩⟩
/-- change, with what the tables hold after it -/
theorem mh_r_change (hR : mh_RI h bd σ F) (x1 x2 x3 : Int32) : ∃ r v h' F', f_X12_change_e (bd 0) x1 x2 x3 h = some (v, h') ∧ mh_Bchg σ x1 x2 x3 (fun p q s ks ms => r = .inr (nI (ks.sum + ms.sum)) ∧ mh_Fb h' bd 65 (mh_pc σ p) (mh_pn σ p) ∧ mh_Fb h' bd 79 (mh_pc σ q) (mh_pn σ q) ∧ mh_Le (mh_pc σ p) (mh_pn σ p) (mh_pc σ q) (mh_pn σ q) (mh_pc σ p).length s 0 (ks.sum + ms.sum)) (r = .inr (-1)) (fun e => r = .inl e) ∧ mh_an r v F' ∧ mh_RI h' bd σ F' ∧ mh_frR bd h h' := by
  obtain ⟨h1, F1, p1, R1, z1, f1⟩ := mh_r_code hR
  unfold f_X12_change_e
  rw [p1, Option.bind_some]
  rcases mh_r_isMint (h := h1) x1 with ⟨p, a1, a2, a3⟩ | ⟨a1, a3⟩
  · subst a2
    rw [mh_b2_eq a3, if_neg (by decide)]
    rcases mh_r_isMint (h := h1) x2 with ⟨q, b1, b2, b3⟩ | ⟨b1, b3⟩
    · subst b2
      rw [mh_b2_eq b3, if_neg (by decide)]
      rcases mh_sgn x3 with ⟨q1, q2⟩ | ⟨q1, s, q2, q3⟩
      · obtain ⟨h2, F2, y1, R2, z2, f2⟩ := mh_r_fl R1 2 (fun v12 h11 => some (v12, h11))
        have y1 : f_X12_change_b34 (bd 0) h1 = _ := y1
        rw [if_pos q1, y1]
        exact ⟨.inl 2, _, h2, F2, rfl, Or.inl ⟨p, q, a1, b1, rfl, rfl, Or.inr ⟨Or.inr q2, rfl⟩⟩, Or.inr ⟨2, rfl, z2⟩, R2, f1.trans f2⟩
      · subst q3
        rw [if_neg q1]
        by_cases e : p = q
        · obtain ⟨h2, F2, y1, R2, z2, f2⟩ := mh_r_fl R1 2 (fun v12 h11 => some (v12, h11))
          have y1 : f_X12_change_b34 (bd 0) h1 = _ := y1
          rw [if_pos (by rw [e]), y1]
          exact ⟨.inl 2, _, h2, F2, rfl, Or.inl ⟨p, q, a1, b1, rfl, rfl, Or.inr ⟨Or.inl e, rfl⟩⟩, Or.inr ⟨2, rfl, z2⟩, R2, f1.trans f2⟩
        · rw [if_neg (fun z => e ((nI_eq (by omega) (by omega)).mp z))]
          obtain ⟨h2, y1, R2, T1, f2, k2⟩ := mh_r_fillT R1 a1 (Or.inl (Eq.refl 65))
          obtain ⟨h3, y2, R3, T2, f3, k3⟩ := mh_r_fillT R2 b1 (Or.inr (Eq.refl 79))
          have hI := R1.1
          have T1' : mh_Fb h3 bd 65 (mh_pc σ p) (mh_pn σ p) := by
            obtain ⟨G, t1, t2, t3⟩ := T1
            exact ⟨G, (k3 _ (fun y w1 w2 => hI.ne (by omega) (by omega) (by omega))).trans t1, fun j hj => (k3 _ (fun y w1 w2 => hI.ne (by omega) (by omega) (by omega))).trans (t2 j hj), t3⟩
          obtain ⟨g, hg, hw⟩ := R3.2 1 (by omega)
          obtain ⟨_, wz1, _, _, w5, w6⟩ := hw p a1
          obtain ⟨_, wz2, _, _, v5, v6⟩ := hw q b1
          obtain ⟨v, u1, u2⟩ := mh_r_least (j := (mh_pc σ p).length) (gv := 0) b1 R3.ob hg wz1 wz2 v5 v6 T1' T2 (Nat.le_refl _) q2 (Nat.zero_le _)
          have u1 : f_X12_least_e (bd 0) (nI (mh_pc σ p).length) (nI q) (lN s) (0 : Int32) h3 = some (nI v, h3) := u1
          rw [mh_gR_eq (k := 30) R1.ob rfl, Option.bind_some, mh_cal_eq R1.ob, y1, Option.bind_some, mh_gR_eq (k := 31) R2.ob rfl, Option.bind_some, mh_cal_eq R2.ob, y2, Option.bind_some, mh_gR_eq (k := 1) R3.ob rfl, Option.bind_some, mh_b2_eq mh_r_purseAt, mh_aI_eq hg (show 104 + 25 * p < 304 by omega) (by omega), Option.bind_some, w5, mh_cal_eq R3.ob, nI_l q2, mh_b2_eq u1]
          have vb : v ≤ 536870912 := by rcases u2 with ⟨t, _⟩ | ⟨t, _⟩ <;> omega
          rcases u2 with ⟨t1, t2⟩ | ⟨t1, ⟨ks, ms, t2, t3⟩, t4⟩
          · rw [if_neg (fun z => absurd ((mh_ltr (b := 536870912) 536870912 rfl (by omega) (by omega)).mp z) (by omega))]
            exact ⟨.inr (-1), _, h3, F1, rfl, Or.inl ⟨p, q, a1, b1, rfl, rfl, Or.inl ⟨s, q2, rfl, e, Or.inr ⟨fun ks ms hk hm => t2 ks ms (mh_Cp_all.mpr ⟨hk, hm⟩), rfl⟩⟩⟩, Or.inl ⟨rfl, z1⟩, R3, (f1.trans f2).trans f3⟩
          · obtain ⟨k', m', hc⟩ := mh_cg_ex wz1 wz2 (s := s) ⟨ks, ms, mh_Cp_all.mp t2⟩
            have e1 := hc.2.2 ks ms (mh_Cp_all.mp t2).1 (mh_Cp_all.mp t2).2
            have e2 := t4 k' m' (mh_Cp_all.mpr ⟨hc.1, hc.2.1⟩)
            have ev : v = k'.sum + m'.sum := by omega
            rw [if_pos ((mh_ltr (b := 536870912) 536870912 rfl (by omega) (by omega)).mpr (by omega))]
            refine ⟨.inr (nI v), _, h3, F1, rfl, Or.inl ⟨p, q, a1, b1, rfl, rfl, Or.inl ⟨s, q2, rfl, e, Or.inl ⟨k', m', hc, by rw [ev], T1', T2, ?_⟩⟩⟩, Or.inl ⟨rfl, z1⟩, R3, (f1.trans f2).trans f3⟩
            rw [← ev]
            exact Or.inr ⟨t1, ⟨ks, ms, t2, t3⟩, t4⟩
    · obtain ⟨h2, F2, y1, R2, z2, f2⟩ := mh_r_fl R1 1 (fun v12 h11 => some (v12, h11))
      have y1 : f_X12_change_b19 (bd 0) h1 = _ := y1
      rw [mh_b2_eq b3, if_pos rfl, y1]
      exact ⟨.inl 1, _, h2, F2, rfl, Or.inr ⟨fun a b _ hb z => b1 b hb z.2, rfl⟩, Or.inr ⟨1, rfl, z2⟩, R2, f1.trans f2⟩
  · obtain ⟨h2, F2, y1, R2, z2, f2⟩ := mh_r_fl R1 1 (fun v12 h11 => some (v12, h11))
    have y1 : f_X12_change_b19 (bd 0) h1 = _ := y1
    rw [mh_b2_eq a3, if_pos rfl, y1]
    exact ⟨.inl 1, _, h2, F2, rfl, Or.inr ⟨fun a b ha _ z => a1 a ha z.1, rfl⟩, Or.inr ⟨1, rfl, z2⟩, R2, f1.trans f2⟩
theorem mh_M_change (hR : mh_RI h bd σ F) (x1 x2 x3 : Int32) : ∃ r v h' F', f_X12_change_e (bd 0) x1 x2 x3 h = some (v, h') ∧ mh_Bchg σ x1 x2 x3 (fun _ _ _ ks ms => r = .inr (nI (ks.sum + ms.sum))) (r = .inr (-1)) (fun e => r = .inl e) ∧ mh_an r v F' ∧ mh_RI h' bd σ F' ∧ mh_frR bd h h' := by
  obtain ⟨r, v, h', F', e1, e2, e3, e4, e5⟩ := mh_r_change hR x1 x2 x3
  refine ⟨r, v, h', F', e1, ?_, e3, e4, e5⟩
  rcases e2 with ⟨p, q, a1, a2, a3, a4, e2⟩ | e2
  · refine Or.inl ⟨p, q, a1, a2, a3, a4, ?_⟩
    rcases e2 with ⟨s, b1, b2, b3, e2⟩ | e2
    · refine Or.inl ⟨s, b1, b2, b3, ?_⟩
      rcases e2 with ⟨ks, ms, c1, c2, _⟩ | e2
      · exact Or.inl ⟨ks, ms, c1, c2⟩
      · exact Or.inr e2
    · exact Or.inr e2
  · exact Or.inr e2
end MhModelCh
