theorem mh_m3 {x y : Int32} : (-3 : Int32) - x = y ↔ x = -3 - y := by
  rw [Int32.sub_eq_iff_eq_add, Int32.eq_sub_iff_add_eq, Int32.add_comm]
  exact eq_comm
theorem mh_m3n {i : Nat} (hi : i < 12) : ((-3 : Int32) - nI i) < 0 ∧ ((-3 : Int32) - nI i) ≠ -1 ∧ ((-3 : Int32) - nI i) ≠ -2 := by
  obtain rfl | rfl | rfl | rfl | rfl | rfl | rfl | rfl | rfl | rfl | rfl | rfl : i = 0 ∨ i = 1 ∨ i = 2 ∨ i = 3 ∨ i = 4 ∨ i = 5 ∨ i = 6 ∨ i = 7 ∨ i = 8 ∨ i = 9 ∨ i = 10 ∨ i = 11 := by omega
  all_goals decide
theorem mh_sgn (x : Int32) : (x < 0 ∧ ∀ s, s < 2 ^ 31 → x ≠ nI s) ∨ (¬ x < 0 ∧ ∃ s, s < 2 ^ 31 ∧ x = nI s) := by
  by_cases hx : x < 0
  · exact Or.inl ⟨hx, fun s hs e => nI_pos hs (e ▸ hx)⟩
  · refine Or.inr ⟨hx, x.toInt.toNat, ?_, ?_⟩
    · have := Int32.toInt_lt x
      omega
    · have h0 : 0 ≤ x.toInt := by
        have := Int32.not_lt.mp hx
        rw [Int32.le_iff_toInt_le] at this
        exact this
      refine Int32.toInt_inj.mp ?_
      rw [nI_toInt (by have := Int32.toInt_lt x; omega)]
      omega
section MhPurseD
variable {h : mh_H} {ad : Nat → Nat} {σ : mh_Sg}
theorem mh_x_pu (hC : mh_CI h ad σ) {p : Nat} (hp : p < 8) : ∃ f g, mh_Pu h (ad (6 * (σ.1.1 * 8 + p) + 2)) (ad (6 * (σ.1.1 * 8 + p) + 3)) (ad (6 * (σ.1.1 * 8 + p) + 4)) (ad (6 * (σ.1.1 * 8 + p) + 5)) f g (mh_pc σ p) (mh_pn σ p) := mh_x_purse hC hp
theorem mh_x_pzz (hC : mh_CI h ad σ) {p : Nat} (hp : p < 8) : mh_pz (mh_pc σ p) (mh_pn σ p) := mh_x_pz hC hp
theorem mh_K_has (hC : mh_CI h ad σ) (x1 x2 : Int32) : ∃ r, f_X11_has_e (ad 1289) x1 x2 h = some (r, h) ∧ mh_Qp σ x1 (mh_Bhas x2) r := by
  unfold f_X11_has_e
  rw [mh_cal_eq hC.ob]
  rcases mh_place x1 with ⟨p, p1, p2⟩ | hx
  · subst p2
    obtain ⟨f, g, hp⟩ := mh_x_pu hC p1
    obtain ⟨z1, z2, z3, z4⟩ := mh_x_pzz hC p1
    have hl := z1.1.1
    rw [mh_bx_r (mh_x_purseAt hC p1)]
    by_cases e1 : x2 = -1
    · rw [if_pos e1, mh_cal_eq hp.1, mh_b2_eq (mh_fx7_coins hp), mh_cal_eq hp.2.1.1, mh_b2_eq (mh_fx1_count hp.2.1)]
      exact ⟨_, rfl, Or.inr ⟨p, p1, rfl, Or.inl ⟨e1, rfl⟩⟩⟩
    · by_cases e2 : x2 = -2
      · rw [if_neg e1, if_pos e2, mh_cal_eq hp.1, mh_b2_eq (mh_fx7_total hp)]
        exact ⟨_, rfl, Or.inr ⟨p, p1, rfl, Or.inr (Or.inl ⟨e2, rfl⟩)⟩⟩
      · rw [if_neg e1, if_neg e2]
        rcases mh_sgn x2 with ⟨n1, n2⟩ | ⟨n1, s, n2, n3⟩
        · have nn : ¬ (0 : Int32) ≤ x2 := fun q => absurd n1 (Int32.not_lt.mpr q)
          rw [if_neg nn]
          unfold f_X11_has_b42
          rw [mh_cal_eq hp.1, mh_b2_eq (mh_fx7_coins hp)]
          rcases mh_x_checkCoin hp.2.1 (-3 - x2) with ⟨i, i1, i2, i3⟩ | ⟨i1, i2⟩
          · rw [mh_bx_r i3, if_neg nn, mh_cal_eq hp.1, mh_b2_eq (mh_fx7_coins hp), mh_cal_eq hp.2.1.1, i2, mh_b2_eq (mh_fx1_value hp.2.1 (by omega))]
            exact ⟨_, rfl, Or.inr ⟨p, p1, rfl, Or.inr (Or.inr (Or.inr (Or.inl ⟨i, i1, mh_m3.mp i2, rfl⟩)))⟩⟩
          · rw [mh_bx_l i2]
            exact ⟨_, rfl, Or.inr ⟨p, p1, rfl, Or.inr (Or.inr (Or.inr (Or.inr ⟨e1, e2, fun i hi => ⟨n2 i (by omega), fun q => i1 i hi (mh_m3.mpr q)⟩, rfl⟩)))⟩⟩
        · have nn : (0 : Int32) ≤ x2 := Int32.not_lt.mp n1
          rw [if_pos nn]
          unfold f_X11_has_b42
          rw [mh_cal_eq hp.1, mh_b2_eq (mh_fx7_coins hp)]
          rcases mh_x_checkCoin hp.2.1 x2 with ⟨i, i1, i2, i3⟩ | ⟨i1, i2⟩
          · rw [mh_bx_r i3, if_pos nn, mh_cal_eq hp.1, i2, mh_b2_eq (mh_fx7_often hp (by omega))]
            exact ⟨_, rfl, Or.inr ⟨p, p1, rfl, Or.inr (Or.inr (Or.inl ⟨i, i1, rfl, rfl⟩))⟩⟩
          · rw [mh_bx_l i2]
            exact ⟨_, rfl, Or.inr ⟨p, p1, rfl, Or.inr (Or.inr (Or.inr (Or.inr ⟨e1, e2, fun i hi => ⟨i1 i hi, fun q => n1 (by rw [q]; exact (mh_m3n (by omega)).1)⟩, rfl⟩)))⟩⟩
  · rw [mh_bx_l (mh_x_purseNo hx)]
    exact ⟨_, rfl, Or.inl ⟨hx, rfl⟩⟩
/-- a purse's table -/
def mh_ptB (i B : Nat) : Prop := (i = 10 ∧ B = 1265) ∨ (i = 11 ∧ B = 1271)
theorem mh_CI.pt (hC : mh_CI h ad σ) {i B : Nat} (hB : mh_ptB i B) : ∃ c n, mh_PT h (ad B) (ad (B + 1)) (ad (B + 2)) (ad (B + 3)) (ad (B + 4)) (ad (B + 5)) c n := by
  rcases hB with ⟨e1, e2⟩ | ⟨e1, e2⟩
  · subst e1 e2; exact hC.2 10 (by omega)
  · subst e1 e2; exact hC.2 11 (by omega)
theorem mh_PT.o {o pu ap vp tp kv : Nat} {c n : List Nat} (hP : mh_PT h o pu ap vp tp kv c n) : h o = some (.inr (8, [.ref pu, .ref kv, .int (nI (mh_dot c n))])) := hP.choose_spec.choose_spec.choose_spec.1
theorem mh_x_pt (hC : mh_CI h ad σ) {i B : Nat} (hB : mh_ptB i B) {p : Nat} (hp : p < 8) : ∃ h', f_X8_take_e (ad B) (ad (6 * (σ.1.1 * 8 + p) + 2)) h = some h' ∧ mh_PT h' (ad B) (ad (B + 1)) (ad (B + 2)) (ad (B + 3)) (ad (B + 4)) (ad (B + 5)) (mh_pc σ p) (mh_pn σ p) ∧ mh_CI h' ad σ ∧ mh_frC ad h h' ∧ mh_fR ad B (B + 6) h h' := by
  have hn := hC.now
  have hB2 : 1265 ≤ B ∧ B ≤ 1271 := by rcases hB with ⟨_, q⟩ | ⟨_, q⟩ <;> omega
  obtain ⟨c, n, hP⟩ := hC.pt hB
  obtain ⟨f, g, hq⟩ := mh_x_pu hC hp
  obtain ⟨h', e1, e2, e3⟩ := mh_fx8_take hP hq (mh_x_pzz hC hp) (hC.1.ne (by omega) (by omega) (by omega)) (hC.1.ne (by omega) (by omega) (by omega)) (hC.1.ne (by omega) (by omega) (by omega)) (hC.1.ne (by omega) (by omega) (by omega)) (hC.1.ne (by omega) (by omega) (by omega)) (hC.1.ne (by omega) (by omega) (by omega)) (hC.1.ne (by omega) (by omega) (by omega))
  have fr : mh_fR ad B (B + 6) h h' := e3.rg (fun x hx => by
    simp only [List.mem_cons, List.not_mem_nil, or_false] at hx
    rcases hx with q | q | q | q | q
    · exact ⟨B, by omega, by omega, q⟩
    · exact ⟨B + 2, by omega, by omega, q⟩
    · exact ⟨B + 3, by omega, by omega, q⟩
    · exact ⟨B + 4, by omega, by omega, q⟩
    · exact ⟨B + 5, by omega, by omega, q⟩)
  rcases hB with ⟨e4, e5⟩ | ⟨e4, e5⟩
  · subst e4 e5
    obtain ⟨z1, z2⟩ := hC.same 10 (by omega) fr ⟨_, _, e2⟩
    exact ⟨h', e1, e2, z1, z2, fr⟩
  · subst e4 e5
    obtain ⟨z1, z2⟩ := hC.same 11 (by omega) fr ⟨_, _, e2⟩
    exact ⟨h', e1, e2, z1, z2, fr⟩
theorem mh_pt10 : mh_ptB 10 1265 := Or.inl ⟨rfl, rfl⟩
theorem mh_pt11 : mh_ptB 11 1271 := Or.inr ⟨rfl, rfl⟩
theorem mh_K_pays (hC : mh_CI h ad σ) (x1 x2 : Int32) : ∃ r h', f_X11_pays_e (ad 1289) x1 x2 h = some (r, h') ∧ mh_Qp σ x1 (mh_Bpays x2) r ∧ mh_CI h' ad σ ∧ mh_frC ad h h' := by
  unfold f_X11_pays_e
  rw [mh_gR_eq (k := 10) hC.ob rfl, Option.bind_some, mh_cal_eq hC.ob]
  rcases mh_place x1 with ⟨p, p1, p2⟩ | hx
  · subst p2
    obtain ⟨c, n, hP⟩ := hC.pt mh_pt10
    obtain ⟨h1, e1, e2, e3, e4, _⟩ := mh_x_pt hC mh_pt10 p1
    rw [mh_bx_r (mh_x_purseAt hC p1), mh_cal_eq hP.o, e1, Option.bind_some, mh_gR_eq (k := 10) e3.ob rfl, Option.bind_some, mh_cal_eq e2.o]
    rcases mh_sgn x2 with ⟨n1, n2⟩ | ⟨n1, s, n2, n3⟩
    · rw [mh_b2_eq (mh_fx8_size_neg e2 n1)]
      exact ⟨_, h1, rfl, Or.inr ⟨p, p1, rfl, Or.inr ⟨fun s ks hs e => absurd e (n2 s hs), rfl⟩⟩, e3, e4⟩
    · subst n3
      obtain ⟨x, y1, y2⟩ := mh_fx8_size e2 n2
      rw [mh_b2_eq y1]
      rcases y2 with ⟨y3, y4⟩ | ⟨ks, y3, y4⟩
      · subst y4
        exact ⟨_, h1, rfl, Or.inr ⟨p, p1, rfl, Or.inr ⟨fun s' ks hs e => by rw [← (nI_eq n2 hs).mp e]; exact y3 ks, rfl⟩⟩, e3, e4⟩
      · subst y4
        exact ⟨_, h1, rfl, Or.inr ⟨p, p1, rfl, Or.inl ⟨s, ks, n2, rfl, y3, rfl⟩⟩, e3, e4⟩
  · rw [mh_bx_l (mh_x_purseNo hx)]
    exact ⟨_, h, rfl, Or.inl ⟨hx, rfl⟩, hC, mh_frC.rfl⟩
theorem mh_K_holes (hC : mh_CI h ad σ) (x1 : Int32) : ∃ r h', f_X11_holes_e (ad 1289) x1 h = some (r, h') ∧ mh_Qp σ x1 mh_Bholes r ∧ mh_CI h' ad σ ∧ mh_frC ad h h' := by
  unfold f_X11_holes_e
  rw [mh_gR_eq (k := 10) hC.ob rfl, Option.bind_some, mh_cal_eq hC.ob]
  rcases mh_place x1 with ⟨p, p1, p2⟩ | hx
  · subst p2
    obtain ⟨c, n, hP⟩ := hC.pt mh_pt10
    obtain ⟨h1, e1, e2, e3, e4, _⟩ := mh_x_pt hC mh_pt10 p1
    rw [mh_bx_r (mh_x_purseAt hC p1), mh_cal_eq hP.o, e1, Option.bind_some, mh_gR_eq (k := 10) e3.ob rfl, Option.bind_some, mh_cal_eq e2.o, mh_b2_eq (mh_fx8_unpaid e2)]
    exact ⟨_, h1, rfl, Or.inr ⟨p, p1, rfl, rfl⟩, e3, e4⟩
  · rw [mh_bx_l (mh_x_purseNo hx)]
    exact ⟨_, h, rfl, Or.inl ⟨hx, rfl⟩, hC, mh_frC.rfl⟩
end MhPurseD
