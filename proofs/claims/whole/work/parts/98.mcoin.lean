theorem mh_Rw.mint {g g' : Nat → Int32} {m c n : Nat → List Nat} (hw : mh_Rw g m c n) {p : Nat} (hp : p < 8) {M : List Nat} (hM : mh_ms M) (h0 : g' (13 * p) = nI M.length) (h1 : ∀ i, i < M.length → g' (13 * p + 1 + i) = nI (M.getD i 0)) (h2 : ∀ j, j < 304 → (j < 13 * p ∨ 13 * p + 13 ≤ j) → g' j = g j) : mh_Rw g' (fun q => if q = p then M else m q) c n := fun q hq => by
  obtain ⟨a1, a2, a3, a4, a5, a6⟩ := hw q hq
  have l1 := a1.1.1
  have l2 := a2.1.1.1
  have l3 := hM.1.1
  by_cases e : q = p
  · subst e
    show mh_ms (if q = q then M else m q) ∧ _ ∧ _ = nI (if q = q then M else m q).length ∧ (∀ i, i < (if q = q then M else m q).length → _ = nI ((if q = q then M else m q).getD i 0)) ∧ _
    rw [if_pos rfl]
    exact ⟨hM, a2, h0, h1, (h2 _ (by omega) (by omega)).trans a5, fun i hi => ⟨(h2 _ (by omega) (by omega)).trans (a6 i hi).1, (h2 _ (by omega) (by omega)).trans (a6 i hi).2⟩⟩
  · show mh_ms (if q = p then M else m q) ∧ _ ∧ _ = nI (if q = p then M else m q).length ∧ (∀ i, i < (if q = p then M else m q).length → _ = nI ((if q = p then M else m q).getD i 0)) ∧ _
    rw [if_neg e]
    exact ⟨a1, a2, (h2 _ (by omega) (by omega)).trans a3, fun i hi => (h2 _ (by omega) (by omega)).trans (a4 i hi), (h2 _ (by omega) (by omega)).trans a5, fun i hi => ⟨(h2 _ (by omega) (by omega)).trans (a6 i hi).1, (h2 _ (by omega) (by omega)).trans (a6 i hi).2⟩⟩
section MhModelC
variable {h : mh_H} {bd : Nat → Nat} {σ : mh_Sg} {F : Nat → Int32}
theorem mh_cp_off {f : Nat → List Nat} {j p : Nat} (hp : p < 8) (hj : j ≠ mh_nx σ) : mh_cp σ f (j * 8 + p) = f (j * 8 + p) := if_neg (fun q => by
  rcases Nat.lt_or_gt_of_ne hj with e | e
  · have := q.1; omega
  · have := q.2; omega)
/-- a mint of now becomes M, and what is now is kept -/
theorem mh_r_mint (hR : mh_RI h bd σ F) {p : Nat} (hp : p < 8) {M : List Nat} {h2 : mh_H} {g' : Nat → Int32} (hg : h2 (bd 1) = some (.inl (0, 304, .inl g'))) (hf : mh_fr [bd 1] h h2) (hM : mh_ms M) (q0 : g' (13 * p) = nI M.length) (q1 : ∀ i, i < M.length → g' (13 * p + 1 + i) = nI (M.getD i 0)) (q2 : ∀ g, h (bd 1) = some (.inl (0, 304, .inl g)) → ∀ j, j < 304 → (j < 13 * p ∨ 13 * p + 13 ≤ j) → g' j = g j) : ∃ h' F', f_X12_changed_e (bd 0) h2 = some h' ∧ mh_RI h' bd (mh_setm (mh_bg σ) (mh_nx σ * 8 + p) M) F' ∧ (∀ j, j ≠ 3 → j ≠ 4 → j ≠ 5 → F' j = F j) ∧ mh_frR bd h h' := by
  obtain ⟨g, hg0, hw⟩ := hR.2 1 (by omega)
  have hRM : mh_RM h2 bd σ F (fun q => if q = p then M else mh_mi σ q) (mh_pc σ) (mh_pn σ) := ⟨hR.1, fun i hi he => mh_rc_keep hi (fun k k1 k2 => hf _ (by
    have := (mh_rr_le hi).2
    simp [hR.1.ne (show k < 99 by omega) (show 1 < 99 by omega) (mh_rr_sep (i := 1) (by omega) hi he k1 k2 (m := 1) (by decide) (by decide))])) (hR.2 i hi), g', hg, hw.mint hp hM q0 q1 (q2 g hg0)⟩
  have t3 : ∀ q, q < 8 → mh_fs (mh_cp σ σ.2.1.1) (mh_nx σ * 8 + p) M (mh_nx σ * 8 + q) = if q = p then M else mh_mi σ q := fun q hq => by
    unfold mh_fs
    by_cases e : q = p
    · rw [if_pos (by rw [e]), if_pos e]
    · rw [if_neg (by omega), if_neg e]
      exact mh_cp_at hq
  have t4 : ∀ j, j ≠ mh_nx σ → ∀ q, q < 8 → mh_fs (mh_cp σ σ.2.1.1) (mh_nx σ * 8 + p) M (j * 8 + q) = σ.2.1.1 (j * 8 + q) := fun j hn q hq => by
    unfold mh_fs
    rw [if_neg (by omega)]
    exact mh_cp_off hq hn
  obtain ⟨h', F', y1, y2, y3, y4⟩ := mh_r_changed hRM (σ' := mh_setm (mh_bg σ) (mh_nx σ * 8 + p) M) rfl rfl (fun q hq => ⟨t3 q hq, mh_cp_at hq, mh_cp_at hq⟩) (fun j hj hn q hq => ⟨t4 j hn q hq, mh_cp_off hq hn, mh_cp_off hq hn⟩)
  exact ⟨h', F', y1, y2, y3, fun b hb => (y4 b hb).trans (hf b (by simp [hb 1 (by omega)]))⟩
theorem mh_r_code (hR : mh_RI h bd σ F) : ∃ h1 F1, mh_pI h (bd 0) 12 0 0 = some h1 ∧ mh_RI h1 bd σ F1 ∧ F1 0 = 0 ∧ mh_frR bd h h1 := by
  obtain ⟨p1, R1, f1⟩ := hR.fld (k := 0) 0 (Or.inl rfl)
  exact ⟨_, _, p1, R1, rfl, f1⟩
theorem mh_r_fail (hR : mh_RI h bd σ F) (e : Nat) : ∃ h1 F1, f_X12_fail_e (bd 0) (nI e) h = some (0, h1) ∧ mh_RI h1 bd σ F1 ∧ F1 0 = nI e ∧ mh_frR bd h h1 := by
  obtain ⟨p1, R1, f1⟩ := hR.fld (k := 0) (nI e) (Or.inl rfl)
  unfold f_X12_fail_e
  rw [p1]
  exact ⟨_, _, rfl, R1, rfl, f1⟩
theorem mh_M_at (hR : mh_RI h bd σ F) (x1 x2 : Int32) : ∃ r v h' F', f_X12_at_e (bd 0) x1 x2 h = some (v, h') ∧ mh_Qm σ x1 (mh_Bat x2) r ∧ mh_an r v F' ∧ mh_RI h' bd σ F' ∧ mh_frR bd h h' := by
  obtain ⟨h1, F1, p1, R1, z1, f1⟩ := mh_r_code hR
  unfold f_X12_at_e
  rw [p1, Option.bind_some]
  have bad : ∀ (r : Nat ⊕ Int32), r = .inl 1 → mh_Qm σ x1 (mh_Bat x2) r → ∃ r v h' F', f_X12_at_b30 (bd 0) h1 = some (v, h') ∧ mh_Qm σ x1 (mh_Bat x2) r ∧ mh_an r v F' ∧ mh_RI h' bd σ F' ∧ mh_frR bd h h' := fun r er hr => by
    obtain ⟨h2, F2, y1, y2, y3, y4⟩ := mh_r_fail R1 1
    have y1 : f_X12_fail_e (bd 0) (1 : Int32) h1 = some (0, h2) := y1
    unfold f_X12_at_b30
    rw [mh_cal_eq R1.ob, mh_b2_eq y1]
    exact ⟨r, _, h2, F2, rfl, hr, Or.inr ⟨1, er, y3⟩, y2, f1.trans y4⟩
  rcases mh_r_isMint (h := h1) x1 with ⟨p, a1, a2, a3⟩ | ⟨a1, a3⟩
  · subst a2
    obtain ⟨g, hg, hw⟩ := R1.2 1 (by omega)
    obtain ⟨w1, w2, w3, w4, _⟩ := hw p a1
    have hl := w1.1.1
    rw [mh_b2_eq a3, if_neg (by decide)]
    by_cases c1 : x2 < (-1 : Int32)
    · rw [if_pos c1]
      refine bad (.inl 1) rfl (Or.inr ⟨p, a1, rfl, Or.inr (Or.inr ⟨fun q => by rw [q] at c1; exact absurd c1 (by decide), fun i hi e => ?_, rfl⟩)⟩)
      rw [e] at c1
      have hi : i < (mh_mi σ p).length := hi
      have := nI_pos (n := i) (by omega)
      exact this (Int32.lt_trans c1 (by decide))
    · rw [if_neg c1, mh_gR_eq (k := 1) R1.ob rfl, Option.bind_some, mh_b2_eq mh_r_mintAt, mh_aI_eq hg (show 13 * p < 304 by omega) (by omega), Option.bind_some, w3]
      by_cases c2 : x2 = -1
      · rw [if_pos (by rw [c2]; exact Int32.lt_of_lt_of_le (b := 0) (by decide) (Int32.not_lt.mp (nI_pos (by omega)))), if_pos c2, mh_gR_eq (k := 1) R1.ob rfl, Option.bind_some, mh_b2_eq mh_r_mintAt, mh_aI_eq hg (show 13 * p < 304 by omega) (by omega), Option.bind_some, w3]
        exact ⟨_, _, h1, F1, rfl, Or.inr ⟨p, a1, rfl, Or.inl ⟨c2, rfl⟩⟩, Or.inl ⟨rfl, z1⟩, R1, f1⟩
      · rcases mh_sgn x2 with ⟨n1, n2⟩ | ⟨n1, s, n2, n3⟩
        · exfalso
          have b1 : (-1 : Int32) ≤ x2 := Int32.not_lt.mp c1
          rw [Int32.le_iff_toInt_le] at b1
          rw [Int32.lt_iff_toInt_lt] at n1
          have b1 : (-1 : Int) ≤ x2.toInt := b1
          have n1 : x2.toInt < 0 := n1
          exact c2 (Int32.toInt_inj.mp (show x2.toInt = -1 by omega))
        · subst n3
          by_cases c3 : s < (mh_mi σ p).length
          · rw [if_pos ((nI_ltI n2 (by omega)).mpr c3), if_neg c2, mh_gR_eq (k := 1) R1.ob rfl, Option.bind_some, mh_b2_eq mh_r_mintAt]
            have ei : nI (13 * p) + (1 : Int32) + nI s = nI (13 * p + 1 + s) := by rw [nI_1, nI_add]
            rw [ei, mh_aI_eq hg (show 13 * p + 1 + s < 304 by omega) (by omega), Option.bind_some, w4 s c3]
            exact ⟨_, _, h1, F1, rfl, Or.inr ⟨p, a1, rfl, Or.inr (Or.inl ⟨c2, s, c3, rfl, rfl⟩)⟩, Or.inl ⟨rfl, z1⟩, R1, f1⟩
          · rw [if_neg (fun q => c3 ((nI_ltI n2 (by omega)).mp q))]
            exact bad (.inl 1) rfl (Or.inr ⟨p, a1, rfl, Or.inr (Or.inr ⟨c2, fun i hi e => by
              have hi : i < (mh_mi σ p).length := hi
              have := (nI_eq n2 (by omega)).mp e
              omega, rfl⟩)⟩)
  · rw [mh_b2_eq a3, if_pos rfl]
    exact bad (.inl 1) rfl (Or.inl ⟨a1, rfl⟩)
end MhModelC
