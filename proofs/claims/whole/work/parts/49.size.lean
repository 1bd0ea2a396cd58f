theorem mh_cgt (x y : Int64) : 0 < lg_cmp x y ↔ y < x := by
  unfold lg_cmp
  by_cases h1 : x > y
  · rw [if_pos h1]; exact ⟨fun _ => h1, fun _ => by decide⟩
  · rw [if_neg h1]
    by_cases h2 : x = y
    · rw [if_pos h2]; exact ⟨fun q => absurd q (by decide), fun q => absurd q h1⟩
    · rw [if_neg h2]; exact ⟨fun q => absurd q (by decide), fun q => absurd q h1⟩
theorem mh_cle (x y : Int64) : lg_cmp x y ≤ 0 ↔ ¬ y < x := by
  unfold lg_cmp
  by_cases h1 : x > y
  · rw [if_pos h1]; exact ⟨fun q => absurd q (by decide), fun q => absurd h1 q⟩
  · rw [if_neg h1]
    by_cases h2 : x = y
    · rw [if_pos h2]; exact ⟨fun _ => h1, fun _ => by decide⟩
    · rw [if_neg h2]; exact ⟨fun _ => h1, fun _ => by decide⟩
theorem mh_cge (x y : Int64) : 0 ≤ lg_cmp x y ↔ y < x ∨ x = y := by
  unfold lg_cmp
  by_cases h1 : x > y
  · rw [if_pos h1]; exact ⟨fun _ => Or.inl h1, fun _ => by decide⟩
  · rw [if_neg h1]
    by_cases h2 : x = y
    · rw [if_pos h2]; exact ⟨fun _ => Or.inr h2, fun _ => by decide⟩
    · rw [if_neg h2]; exact ⟨fun q => absurd q (by decide), fun q => q.elim (fun q => absurd q h1) (fun q => absurd q h2)⟩
theorem mh_clt (x y : Int64) : lg_cmp x y < 0 ↔ ¬ (y < x ∨ x = y) := by
  rw [← mh_cge]
  exact ⟨fun h q => absurd (Int32.lt_of_lt_of_le h q) (Int32.lt_irrefl), fun h => Int32.not_le.mp h⟩
theorem mh_cgeN {a b : Nat} (ha : a < 2 ^ 63) (hb : b < 2 ^ 63) : 0 ≤ lg_cmp (lN a) (lN b) ↔ b ≤ a := by
  rw [mh_cge, pk_lLT hb ha, mh_lN_inj ha hb]
  omega
theorem mh_cleN {a b : Nat} (ha : a < 2 ^ 63) (hb : b < 2 ^ 63) : lg_cmp (lN a) (lN b) ≤ 0 ↔ a ≤ b := by
  rw [mh_cle, pk_lLT hb ha]
  omega
theorem mh_cgtN {a b : Nat} (ha : a < 2 ^ 63) (hb : b < 2 ^ 63) : 0 < lg_cmp (lN a) (lN b) ↔ b < a := by
  rw [mh_cgt, pk_lLT hb ha]
theorem mh_cltN {a b : Nat} (ha : a < 2 ^ 63) (hb : b < 2 ^ 63) : lg_cmp (lN a) (lN b) < 0 ↔ a < b := by
  rw [mh_clt, pk_lLT hb ha, mh_lN_inj ha hb]
  omega
theorem mh_ceqN {a b : Nat} (ha : a < 2 ^ 63) (hb : b < 2 ^ 63) : lg_cmp (lN a) (lN b) = 0 ↔ a = b := by
  rw [mh_cmp0, mh_lN_inj ha hb]
/-- a size as a long -/
def mh_lz (o : Option Nat) : Int64 := match o with
  | none => -1
  | some n => lN n
theorem mh_sz_l {o : Option Nat} (h : ∀ n, o = some n → n < 2 ^ 31) : (mh_sz o).toInt64 = mh_lz o := by
  cases o with
  | none => rfl
  | some n => exact nI_l (h n rfl)
theorem mh_mn_nil {s : Nat} (hs : 0 < s) : mh_mn [] s = none := mh_mn_none.mpr (fun q => by have := mh_py_nil.mp q; omega)
section MhSize
variable {h : mh_H} {o a u t k v : Nat} {cs : List Nat}
theorem mh_Fw.table {w : Nat → Nat} (hF : mh_Fw h o a u t k v cs w) {s : Nat} (hs : s < 90000) : ∃ h', f_X2_sizeInTable_e o (nI s) h = some (mh_sz (mh_mn cs s), h') ∧ mh_Fw h' o a u t k v cs w ∧ mh_fr [o, t] h h' := by
  obtain ⟨hF, h1, h2, fv, h3, h4⟩ := hF
  obtain ⟨⟨p1, p2, p3, p4⟩, _⟩ := hF.ap
  obtain ⟨h', e1, e2, e3, e4⟩ := mh_fx2_sizeInTable hs hF
  exact ⟨h', e1, ⟨e2, e4.trans h1, h2, fv, h3.keep (e3 _ (by simp [p1, p2])) (e3 _ (by simp [p3, p4])), h4⟩, e3⟩
theorem mh_fx2_sizeW {w : Nat → Nat} (hF : mh_Fw h o a u t k v cs w) {s : Nat} (h0 : 0 < s) (hs : s ≤ 1000000000000000) : ∃ h', f_X2_size_e o (lN s) h = some (mh_lz (mh_mn cs s), h') ∧ mh_Fw h' o a u t k v cs w ∧ mh_fr [o, t] h h' := by
  have hF0 := hF
  obtain ⟨hF, h1, h2, fv, h3, h4⟩ := hF
  have hms := hF.ms
  have hl := hms.1.1
  have hlp := List.length_pos_iff.mpr h2
  obtain ⟨g1, g2, g3, g4⟩ := mh_tp_ok hms h2
  have gp := (g1.2 _ g1.1).1
  obtain ⟨fc, hc⟩ := hF.co
  obtain ⟨y, tn, ho⟩ := hF.ob
  have htn : tn = 1 := by
    have := mh_gI_eq (k := 4) ho rfl
    rw [h1] at this
    exact (Option.some.inj this).symm
  have hr := Nat.mod_lt s gp
  have hI : mh_INF < 2 ^ 31 := by unfold mh_INF; omega
  have c0 : ¬ lg_cmp (lN s) (0 : Int64) ≤ 0 := fun q => absurd ((mh_cleN (b := 0) (by omega) (by omega)).mp q) (by omega)
  have c1 : ¬ nI cs.length = 0 := nI_ne0 hlp (by omega)
  have et : f_X2_turn_e o h = some h := by
    unfold f_X2_turn_e
    rw [h1, Option.bind_some, if_neg (by decide)]
  have em : (nI (mh_tp cs)).toInt64 = lN (mh_tp cs) := nI_l (by omega)
  have c2 : ¬ lN (mh_tp cs) = 0 := fun q => by
    have := (mh_lN_inj (b := 0) (by omega) (by omega)).mp q
    omega
  have er : (mh_lrem (lN s) (lN (mh_tp cs))).toInt32 = nI (s % mh_tp cs) := by
    show (lN s - lN s / lN (mh_tp cs) * lN (mh_tp cs)).toInt32 = _
    rw [pk_lRem (by omega) gp (by omega), lN_i]
  have hw := mh_fx2_wheelFrom hF0 hr
  have start : f_X2_size_e o (lN s) h = mh_b2 (mh_cal h o 2 (f_X2_wheelFrom_e o (nI (s % mh_tp cs)) h)) fun v10 h9 =>
      if v10 = (2147483647 : Int32) then some ((-1 : Int64), h9) else
      if 0 ≤ (lg_cmp (lN s) ((v10).toInt64)) then (
      mh_b2 (mh_cal h9 o 2 (f_X2_lack_e o (nI (s % mh_tp cs)) h9)) fun v12 h11 =>
      (mh_gR h11 o 2 2).bind fun a13 =>
      mh_b2 (mh_cal h11 a13 0 (f_X0_modulus_e a13 h11)) fun v15 h14 =>
      mh_nz ((v15).toInt64 = 0) <|
      f_X2_size_b99 ((lN s + (v12).toInt64) / (v15).toInt64) h14) else
      mh_b2 (mh_cal h9 o 2 (f_X2_sizeInTable_e o ((lN s).toInt32) h9)) fun v17 h16 =>
      f_X2_size_b99 ((v17).toInt64) h16 := by
    unfold f_X2_size_e
    rw [if_neg c0, mh_gR_eq (k := 0) ho rfl, Option.bind_some, mh_cal_eq hc.1, mh_b2_eq (mh_fx1_count hc), if_neg c1, mh_cal_eq ho, et, Option.bind_some, mh_gR_eq (k := 2) ho rfl, Option.bind_some, mh_cal_eq h3.1, mh_b2_eq (mh_fx0_modulus h3), em, mh_nz_eq c2, mh_nm_eq, er]
  rw [start, mh_cal_eq ho, mh_b2_eq hw]
  by_cases hc1 : w (s % mh_tp cs) = mh_INF
  · rw [if_pos hc1, if_pos (show nI mh_INF = (2147483647 : Int32) from rfl), mh_whl_none hms h2 h4 hc1]
    exact ⟨h, rfl, hF0, mh_fr.rfl⟩
  · obtain ⟨f1, f2, f3, f4, f5⟩ := mh_whl_fm hms h2 h4 hr hc1
    rw [if_neg hc1, if_neg (by rw [mh_nI_inf, nI_eq (by omega) hI]; unfold mh_INF; omega), nI_l (by omega)]
    by_cases hc2 : mh_fm (mh_tp cs) w (s % mh_tp cs) ≤ s
    · obtain ⟨q1, q2⟩ := mh_whl_size hms h2 h4 hc1 hc2
      rw [if_pos ((mh_cgeN (by omega) (by omega)).mpr hc2), mh_cal_eq ho, mh_b2_eq (mh_fx2_lack hF0 hr), mh_gR_eq (k := 2) ho rfl, Option.bind_some, mh_cal_eq h3.1, mh_b2_eq (mh_fx0_modulus h3), em, mh_nz_eq c2, nI_l (by omega), lN_add, pk_lDiv (by omega) gp (by omega), q1]
      exact ⟨h, rfl, hF0, mh_fr.rfl⟩
    · obtain ⟨h', e1, e2, e3⟩ := hF0.table (s := s) (by omega)
      rw [if_neg (fun q => hc2 ((mh_cgeN (by omega) (by omega)).mp q)), lN_i, mh_cal_eq ho, mh_b2_eq e1, mh_sz_l (fun n hn => by have := mh_mn_b (fun x hx => (hms.1.2 x hx).1) hn; omega)]
      exact ⟨h', rfl, e2, e3⟩
theorem mh_fx2_turnW {w : Nat → Nat} (hF : mh_Fw h o a u t k v cs w) : f_X2_turn_e o h = some h := by
  unfold f_X2_turn_e
  rw [hF.2.1, Option.bind_some, if_neg (by decide)]
theorem mh_size_turn (hF : mh_Fe h o a u t k v cs) (hne : cs ≠ []) {h1 : mh_H} {w : Nat → Nat} (ht : f_X2_turn_e o h = some h1) (hF1 : mh_Fw h1 o a u t k v cs w) {s : Nat} (h0 : 0 < s) (hs : s ≤ 1000000000000000) : f_X2_size_e o (lN s) h = f_X2_size_e o (lN s) h1 := by
  have hms := hF.ms
  have hl := hms.1.1
  have hlp := List.length_pos_iff.mpr hne
  obtain ⟨fc, hc⟩ := hF.co
  obtain ⟨y, tn, ho⟩ := hF.ob
  obtain ⟨fc1, hc1⟩ := hF1.1.co
  obtain ⟨y1, tn1, ho1⟩ := hF1.1.ob
  have c0 : ¬ lg_cmp (lN s) (0 : Int64) ≤ 0 := fun q => absurd ((mh_cleN (b := 0) (by omega) (by omega)).mp q) (by omega)
  have c1 : ¬ nI cs.length = 0 := nI_ne0 hlp (by omega)
  unfold f_X2_size_e
  rw [if_neg c0, if_neg c0, mh_gR_eq (k := 0) ho rfl, Option.bind_some, mh_cal_eq hc.1, mh_b2_eq (mh_fx1_count hc), if_neg c1, mh_cal_eq ho, ht, Option.bind_some, mh_gR_eq (k := 0) ho1 rfl, Option.bind_some, mh_cal_eq hc1.1, mh_b2_eq (mh_fx1_count hc1), if_neg c1, mh_cal_eq ho1, mh_fx2_turnW hF1, Option.bind_some]
theorem mh_fx2_size (hF : mh_Fe h o a u t k v cs) {s : Nat} (hs : s ≤ 1000000000000000) : ∃ h', f_X2_size_e o (lN s) h = some (mh_lz (mh_mn cs s), h') ∧ mh_Fe h' o a u t k v cs ∧ mh_fr [o, t, k, v] h h' ∧ (0 < s → cs ≠ [] → ∃ w, mh_Fw h' o a u t k v cs w) := by
  by_cases h0 : s = 0
  · subst h0
    refine ⟨h, ?_, hF, mh_fr.rfl, fun q => absurd q (by omega)⟩
    unfold f_X2_size_e
    have z1 : lg_cmp (lN 0) (0 : Int64) ≤ 0 := (mh_cleN (a := 0) (b := 0) (by omega) (by omega)).mpr (Nat.le_refl _)
    have z2 : lg_cmp (lN 0) (0 : Int64) = 0 := (mh_ceqN (a := 0) (b := 0) (by omega) (by omega)).mpr rfl
    rw [if_pos z1, mh_mn0]
    unfold f_X2_size_b16
    rw [if_pos z2]
    rfl
  · by_cases hne : cs = []
    · subst hne
      refine ⟨h, ?_, hF, mh_fr.rfl, fun _ q => absurd rfl q⟩
      obtain ⟨fc, hc⟩ := hF.co
      obtain ⟨y, tn, ho⟩ := hF.ob
      have c0 : ¬ lg_cmp (lN s) (0 : Int64) ≤ 0 := fun q => absurd ((mh_cleN (b := 0) (by omega) (by omega)).mp q) (by omega)
      have c3 : ¬ lg_cmp (lN s) (0 : Int64) = 0 := fun q => absurd ((mh_ceqN (b := 0) (by omega) (by omega)).mp q) (by omega)
      unfold f_X2_size_e
      rw [if_neg c0, mh_gR_eq (k := 0) ho rfl, Option.bind_some, mh_cal_eq hc.1, mh_b2_eq (mh_fx1_count hc), if_pos (show nI ([] : List Nat).length = 0 from rfl), mh_mn_nil (by omega)]
      unfold f_X2_size_b16
      rw [if_neg c3]
      rfl
    · obtain ⟨h1, w, e1, e2, e3⟩ := mh_fx2_turn hF hne
      obtain ⟨h2, e4, e5, e6⟩ := mh_fx2_sizeW e2 (s := s) (by omega) hs
      refine ⟨h2, ?_, e5.1, (e3.sub (by simp)).trans (e6.sub (by simp)), fun _ _ => ⟨w, e5⟩⟩
      rw [mh_size_turn hF hne e1 e2 (by omega) hs, e4]
end MhSize
