section MhLS2
variable {h : mh_H} {o k v m : Nat} {f : Nat → Int32} {w : Nat → Nat}
theorem mh_fx4_missing (hs : mh_LS h o k v m f w) (hw : ∀ r, r < m → w r ≤ 89700) : f_X4_missing_e o h = some (nI (mh_sumr (fun r => w r / m) m), h) := by
  have m1 := hs.2.2.2.1
  have m2 := hs.2.2.2.2.1
  have key := mh_wh (fun n (i : Nat) => f_X4_missing_b4 n o (nI (mh_sumr (fun r => w r / m) i)) (nI i) h) (fun (r : Int32 × mh_H) => some r) (fun i => i ≤ m) (fun i => m - i) (fun r => r = (nI (mh_sumr (fun r => w r / m) m), h))
    (fun n i hi => by
      by_cases hc : i < m
      · refine Or.inl ⟨i + 1, hc, by omega, ?_⟩
        show f_X4_missing_b4 (n + 1) _ _ _ _ = _
        have := hw i hc
        rw [f_X4_missing_b4, mh_gR_eq hs.1 rfl, Option.bind_some, mh_cal_eq hs.2.1, mh_b2_eq (mh_fx0_modulus hs.2), if_neg (fun q => absurd ((nI_leI (by omega) (by omega)).mp q) (by omega)), mh_cal_eq hs.1, mh_b2_eq (mh_fx4_least hs hc), mh_gR_eq hs.1 rfl, Option.bind_some, mh_cal_eq hs.2.1, mh_b2_eq (mh_fx0_modulus hs.2), mh_nz_eq (nI_ne0 (by omega) (by omega)), mh_nm_eq, mh_nm_eq, mh_inc, pk_div (by omega) (by omega) (by omega), nI_add]
        rfl
      · have e : i = m := by omega
        refine Or.inr ⟨_, rfl, ?_⟩
        show f_X4_missing_b4 (n + 1) _ _ _ _ = _
        rw [f_X4_missing_b4, mh_gR_eq hs.1 rfl, Option.bind_some, mh_cal_eq hs.2.1, mh_b2_eq (mh_fx0_modulus hs.2), if_pos ((nI_leI (by omega) (by omega)).mpr (by omega)), e]
        rfl) m mh_fu 0 (by omega) (Nat.zero_le _) (mh_fuel _ (by omega))
  obtain ⟨r, r1, r2⟩ := key
  rw [r1] at r2
  exact r2
def mh_maxr (w : Nat → Nat) : Nat → Nat
  | 0 => 0
  | n + 1 => max (mh_maxr w n) (w n)
theorem mh_maxr_le {w : Nat → Nat} {B : Nat} : ∀ n, (∀ r, r < n → w r ≤ B) → mh_maxr w n ≤ B := by
  intro n
  induction n with
  | zero => intro _; exact Nat.zero_le _
  | succ n ih => intro h; rw [mh_maxr]; have := h n (Nat.lt_succ_self n); have := ih (fun r hr => h r (by omega)); omega
theorem mh_maxr_ge {w : Nat → Nat} : ∀ (n r : Nat), r < n → w r ≤ mh_maxr w n := by
  intro n
  induction n with
  | zero => intro r h; omega
  | succ n ih =>
    intro r h
    rw [mh_maxr]
    by_cases hr : r = n
    · rw [hr]; omega
    · have := ih r (by omega); omega
theorem mh_maxr_at {w : Nat → Nat} : ∀ n, 0 < n → ∃ r, r < n ∧ mh_maxr w n = w r := by
  intro n
  induction n with
  | zero => intro h; omega
  | succ n ih =>
    intro _
    rw [mh_maxr]
    by_cases hn : n = 0
    · subst hn
      exact ⟨0, by omega, by rw [mh_maxr]; omega⟩
    · obtain ⟨r, h1, h2⟩ := ih (by omega)
      by_cases hc : mh_maxr w n ≤ w n
      · exact ⟨n, by omega, by omega⟩
      · exact ⟨r, by omega, by omega⟩
theorem mh_fx4_lastMissing (hs : mh_LS h o k v m f w) : f_X4_lastMissing_e o h = some (nI (mh_maxr w m) - nI m, h) := by
  have m1 := hs.2.2.2.1
  have m2 := hs.2.2.2.2.1
  have hI : mh_INF < 2 ^ 31 := by unfold mh_INF; omega
  have hw := hs.2.2.2.2.2
  have key := mh_wh (fun n (i : Nat) => f_X4_lastMissing_b4 n o (nI (mh_maxr w i)) (nI i) h) (fun (r : Int32 × mh_H) => some r) (fun i => i ≤ m) (fun i => m - i) (fun r => r = (nI (mh_maxr w m) - nI m, h))
    (fun n i hi => by
      by_cases hc : i < m
      · refine Or.inl ⟨i + 1, hc, by omega, ?_⟩
        show f_X4_lastMissing_b4 (n + 1) _ _ _ _ = _
        have h1 := (hw i hc).2
        have h2 := mh_maxr_le (w := w) (B := mh_INF) i (fun r hr => (hw r (by omega)).2)
        have e : (if nI (mh_maxr w i) < nI (w i) then nI (w i) else nI (mh_maxr w i)) = nI (mh_maxr w (i + 1)) := by
          rw [mh_maxr]
          by_cases hq : mh_maxr w i < w i
          · rw [if_pos ((nI_ltI (by omega) (by omega)).mpr hq), Nat.max_eq_right (by omega)]
          · rw [if_neg (fun q => hq ((nI_ltI (by omega) (by omega)).mp q)), Nat.max_eq_left (by omega)]
        rw [f_X4_lastMissing_b4, mh_gR_eq hs.1 rfl, Option.bind_some, mh_cal_eq hs.2.1, mh_b2_eq (mh_fx0_modulus hs.2), if_neg (fun q => absurd ((nI_leI (by omega) (by omega)).mp q) (by omega)), mh_cal_eq hs.1, mh_b2_eq (mh_fx4_least hs hc), mh_nm_eq, mh_nm_eq, mh_inc, e]
      · have e : i = m := by omega
        refine Or.inr ⟨_, rfl, ?_⟩
        show f_X4_lastMissing_b4 (n + 1) _ _ _ _ = _
        rw [f_X4_lastMissing_b4, mh_gR_eq hs.1 rfl, Option.bind_some, mh_cal_eq hs.2.1, mh_b2_eq (mh_fx0_modulus hs.2), if_pos ((nI_leI (by omega) (by omega)).mpr (by omega)), e]
        unfold f_X4_lastMissing_b31
        rw [mh_gR_eq hs.1 rfl, Option.bind_some, mh_cal_eq hs.2.1, mh_b2_eq (mh_fx0_modulus hs.2)]) m mh_fu 0 (by omega) (Nat.zero_le _) (mh_fuel _ (by omega))
  obtain ⟨r, r1, r2⟩ := key
  rw [r1] at r2
  exact r2
theorem mh_fx4_missingUpTo (hs : mh_LS h o k v m f w) (hww : ∀ r, r < m → w r = mh_INF ∨ w r % m = r) {x : Nat} (hx : x + m < mh_INF) : f_X4_missingUpTo_e o (nI x) h = some (nI (mh_cnt (mh_gp m w) (x + 1)), h) := by
  have m1 := hs.2.2.2.1
  have m2 := hs.2.2.2.2.1
  have hI : mh_INF < 2 ^ 31 := by unfold mh_INF; omega
  have hw := hs.2.2.2.2.2
  rw [← mh_gt_sum m1 hww x hx]
  have late : ∀ d i, i + d = m → x < i → mh_sumr (mh_gt m w x) m = mh_sumr (mh_gt m w x) i := by
    intro d
    induction d with
    | zero => intro i h1 _; rw [← h1]; rfl
    | succ d ih =>
      intro i h1 h2
      rw [ih (i + 1) (by omega) (by omega), mh_sumr]
      have : mh_gt m w x i = 0 := if_neg (by omega)
      rw [this, Nat.add_zero]
  have key := mh_wh (fun n (i : Nat) => f_X4_missingUpTo_b4 n o (nI x) (nI (mh_sumr (mh_gt m w x) i)) (nI i) h) (fun (r : Int32 × mh_H) => some r) (fun i => i ≤ m) (fun i => m - i) (fun r => r = (nI (mh_sumr (mh_gt m w x) m), h))
    (fun n i hi => by
      by_cases hc : i < m
      · by_cases hc2 : x < i
        · refine Or.inr ⟨_, rfl, ?_⟩
          show f_X4_missingUpTo_b4 (n + 1) _ _ _ _ _ = _
          rw [f_X4_missingUpTo_b4, mh_gR_eq hs.1 rfl, Option.bind_some, mh_cal_eq hs.2.1, mh_b2_eq (mh_fx0_modulus hs.2), if_neg (fun q => absurd ((nI_leI (by omega) (by omega)).mp q) (by omega)), if_pos ((nI_ltI (by omega) (by omega)).mpr hc2), late (m - i) i (by omega) hc2]
          rfl
        · refine Or.inl ⟨i + 1, hc, by omega, ?_⟩
          show f_X4_missingUpTo_b4 (n + 1) _ _ _ _ _ = _
          have h1 := (hw i hc).2
          have h3 := Nat.div_le_self (x - i) m
          have h4 := Nat.div_le_self (w i) m
          have e : nI (mh_sumr (mh_gt m w x) i) + (if nI (w i / m) < nI ((x - i) / m + 1) then nI (w i / m) else nI ((x - i) / m + 1)) = nI (mh_sumr (mh_gt m w x) (i + 1)) := by
            have eg : mh_gt m w x i = min ((x - i) / m + 1) (w i / m) := if_pos (by omega)
            rw [mh_sumr, eg]
            generalize (x - i) / m = y1 at *
            generalize w i / m = y2 at *
            by_cases hq : y2 < y1 + 1
            · rw [if_pos ((nI_ltI (by omega) (by omega)).mpr hq), Nat.min_eq_right (by omega), nI_add]
            · rw [if_neg (fun q => hq ((nI_ltI (by omega) (by omega)).mp q)), Nat.min_eq_left (by omega), nI_add]
          rw [f_X4_missingUpTo_b4, mh_gR_eq hs.1 rfl, Option.bind_some, mh_cal_eq hs.2.1, mh_b2_eq (mh_fx0_modulus hs.2), if_neg (fun q => absurd ((nI_leI (by omega) (by omega)).mp q) (by omega)), if_neg (fun q => hc2 ((nI_ltI (by omega) (by omega)).mp q)), mh_gR_eq hs.1 rfl, Option.bind_some, mh_cal_eq hs.2.1, mh_b2_eq (mh_fx0_modulus hs.2), mh_nz_eq (nI_ne0 (by omega) (by omega)), mh_nm_eq, mh_cal_eq hs.1, mh_b2_eq (mh_fx4_least hs hc), mh_gR_eq hs.1 rfl, Option.bind_some, mh_cal_eq hs.2.1, mh_b2_eq (mh_fx0_modulus hs.2), mh_nz_eq (nI_ne0 (by omega) (by omega)), mh_nm_eq, mh_nm_eq, mh_inc, pk_sub (by omega), pk_div (by omega) (by omega) (by omega), pk_div (by omega) (by omega) (by omega), nI_1, e]
      · have e : i = m := by omega
        refine Or.inr ⟨_, rfl, ?_⟩
        show f_X4_missingUpTo_b4 (n + 1) _ _ _ _ _ = _
        rw [f_X4_missingUpTo_b4, mh_gR_eq hs.1 rfl, Option.bind_some, mh_cal_eq hs.2.1, mh_b2_eq (mh_fx0_modulus hs.2), if_pos ((nI_leI (by omega) (by omega)).mpr (by omega)), e]
        rfl) m mh_fu 0 (by omega) (Nat.zero_le _) (mh_fuel _ (by omega))
  obtain ⟨r, r1, r2⟩ := key
  rw [r1] at r2
  exact r2
theorem mh_fx4_missingAt (hs : mh_LS h o k v m f w) (hww : ∀ r, r < m → w r = mh_INF ∨ w r % m = r) {i b : Nat} (hi : i < 2 ^ 30) (hb : b < 2 ^ 30) (hc : i < mh_cnt (mh_gp m w) (b + 1)) :
    ∃ x, f_X4_missingAt_e o (nI i) (nI b) h = some (nI x, h) ∧ x ≤ b ∧ i < mh_cnt (mh_gp m w) (x + 1) ∧ ∀ y, y < x → mh_cnt (mh_gp m w) (y + 1) ≤ i := by
  have m2 := hs.2.2.2.2.1
  have hI : mh_INF = 2147483647 := rfl
  have key := mh_wh (fun n (s : Nat × Nat × Nat) => f_X4_missingAt_b8 n o (nI i) (nI s.1) (nI s.2.1) (nI s.2.2) h) (fun (x : Nat) => some (nI x, h))
    (fun s => s.2.2 ≤ 31 ∧ s.1 ≤ s.2.1 ∧ s.2.1 ≤ b ∧ s.2.1 - s.1 < 2 ^ (31 - s.2.2) ∧ i < mh_cnt (mh_gp m w) (s.2.1 + 1) ∧ ∀ y, y < s.1 → mh_cnt (mh_gp m w) (y + 1) ≤ i) (fun s => 32 - s.2.2)
    (fun x => x ≤ b ∧ i < mh_cnt (mh_gp m w) (x + 1) ∧ ∀ y, y < x → mh_cnt (mh_gp m w) (y + 1) ≤ i)
    (fun n s q => by
      obtain ⟨lo, hi2, t⟩ := s
      obtain ⟨q1, q2, q3, q4, q5, q6⟩ := q
      have q1 : t ≤ 31 := q1
      have q2 : lo ≤ hi2 := q2
      have q3 : hi2 ≤ b := q3
      have q4 : hi2 - lo < 2 ^ (31 - t) := q4
      have q5 : i < mh_cnt (mh_gp m w) (hi2 + 1) := q5
      have q6 : ∀ y, y < lo → mh_cnt (mh_gp m w) (y + 1) ≤ i := q6
      have n1 : ¬ (32 : Int32) ≤ nI t := fun q => absurd ((nI_leI (a := 32) (by omega) (by omega)).mp q) (by omega)
      by_cases hlt : lo < hi2
      · have ht : t < 31 := by
          refine Nat.lt_of_not_le (fun c => ?_)
          have : t = 31 := by omega
          rw [this] at q4
          omega
        have hp : 2 ^ (31 - t) = 2 * 2 ^ (31 - (t + 1)) := by
          rw [show 31 - t = (31 - (t + 1)) + 1 by omega, Nat.pow_succ, Nat.mul_comm]
        have hcm := mh_cnt_le (mh_gp m w) ((lo + hi2) / 2 + 1)
        have n2 : ¬ nI hi2 ≤ nI lo := fun q => absurd ((nI_leI (by omega) (by omega)).mp q) (by omega)
        have n3 := mh_fx4_missingUpTo hs hww (x := (lo + hi2) / 2) (by omega)
        have e0 : (nI lo + nI hi2) / (2 : Int32) = nI ((lo + hi2) / 2) := by
          rw [nI_add]
          exact pk_div (d := 2) (by omega) (by omega) (by omega)
        by_cases hq : mh_cnt (mh_gp m w) ((lo + hi2) / 2 + 1) ≤ i
        · refine Or.inl ⟨((lo + hi2) / 2 + 1, hi2, t + 1), ⟨by show t + 1 ≤ 31; omega, by show (lo + hi2) / 2 + 1 ≤ hi2; omega, q3, by show hi2 - ((lo + hi2) / 2 + 1) < 2 ^ (31 - (t + 1)); omega, q5, fun y hy => ?_⟩, by show 32 - (t + 1) < 32 - t; omega, ?_⟩
          · have hy : y < (lo + hi2) / 2 + 1 := hy
            exact Nat.le_trans (mh_cnt_mono _ (show y + 1 ≤ (lo + hi2) / 2 + 1 by omega)) hq
          · show f_X4_missingAt_b8 (n + 1) _ _ _ _ _ _ = _
            rw [f_X4_missingAt_b8, if_neg n1, if_neg n2, mh_nz_eq (by decide), mh_nm_eq, e0, mh_cal_eq hs.1, mh_b2_eq n3, if_pos ((nI_leI (by omega) (by omega)).mpr hq), mh_nm_eq]
            unfold f_X4_missingAt_b51
            rw [mh_nm_eq, mh_inc, nI_1]
        · refine Or.inl ⟨(lo, (lo + hi2) / 2, t + 1), ⟨by show t + 1 ≤ 31; omega, by show lo ≤ (lo + hi2) / 2; omega, by show (lo + hi2) / 2 ≤ b; omega, by show (lo + hi2) / 2 - lo < 2 ^ (31 - (t + 1)); omega, by show i < mh_cnt (mh_gp m w) ((lo + hi2) / 2 + 1); omega, q6⟩, by show 32 - (t + 1) < 32 - t; omega, ?_⟩
          show f_X4_missingAt_b8 (n + 1) _ _ _ _ _ _ = _
          rw [f_X4_missingAt_b8, if_neg n1, if_neg n2, mh_nz_eq (by decide), mh_nm_eq, e0, mh_cal_eq hs.1, mh_b2_eq n3, if_neg (fun c => hq ((nI_leI (by omega) (by omega)).mp c))]
          unfold f_X4_missingAt_b51
          rw [mh_nm_eq, mh_inc]
      · have e : lo = hi2 := by omega
        refine Or.inr ⟨lo, ⟨by omega, by rw [e]; exact q5, q6⟩, ?_⟩
        show f_X4_missingAt_b8 (n + 1) _ _ _ _ _ _ = _
        have n2 : nI hi2 ≤ nI lo := (nI_leI (by omega) (by omega)).mpr (by omega)
        rw [f_X4_missingAt_b8, if_neg n1, if_pos n2]
        rfl)
    32 mh_fu (0, b, 0) (by show 32 - 0 ≤ 32; omega) ⟨by show 0 ≤ 31; omega, Nat.zero_le _, Nat.le_refl _, by show b - 0 < 2 ^ (31 - 0); omega, hc, fun y hy => absurd hy (Nat.not_lt_zero y)⟩ (mh_fuel _ (by omega))
  obtain ⟨x, r1, r2⟩ := key
  exact ⟨x, r2, r1⟩
end MhLS2
