theorem mh_sumr_hd (g : Nat → Nat) : ∀ n, mh_sumr g (n + 1) = g 0 + mh_sumr (fun i => g (i + 1)) n := by
  intro n
  induction n with
  | zero => show 0 + g 0 = g 0 + 0; omega
  | succ n ih =>
    show mh_sumr g (n + 1) + g (n + 1) = g 0 + (mh_sumr (fun i => g (i + 1)) n + g (n + 1))
    omega
/-- no more ways than by what is taken of the last coin -/
theorem mh_wy_sum {cs : List Nat} {j : Nat} (hc : 1 ≤ cs.getD j 0) : ∀ (left : Nat), mh_wy cs (j + 1) left ≤ mh_sumr (fun i => mh_wy cs j (left - i * cs.getD j 0)) (left / cs.getD j 0 + 1) := by
  intro left
  induction left using Nat.strongRecOn with
  | ind left ih =>
    rw [mh_wy_s hc, mh_sumr_hd]
    refine Nat.le_trans (Nat.min_le_left _ _) ?_
    show _ ≤ mh_wy cs j (left - 0 * cs.getD j 0) + _
    rw [Nat.zero_mul, Nat.sub_zero]
    by_cases c : cs.getD j 0 ≤ left
    · rw [if_pos c]
      have h1 := ih (left - cs.getD j 0) (by omega)
      have h2 : (left - cs.getD j 0) / cs.getD j 0 + 1 = left / cs.getD j 0 := by rw [Nat.div_eq_sub_div (by omega) c]
      rw [h2] at h1
      have h3 : (fun i => mh_wy cs j (left - (i + 1) * cs.getD j 0)) = (fun i => mh_wy cs j (left - cs.getD j 0 - i * cs.getD j 0)) := by
        funext i
        congr 1
        rw [Nat.succ_mul]
        omega
      show mh_wy cs j left + _ ≤ mh_wy cs j left + mh_sumr (fun i => mh_wy cs j (left - (i + 1) * cs.getD j 0)) _
      rw [h3]
      omega
    · rw [if_neg c]
      omega
theorem mh_ch_ok {cs : List Nat} {j left : Nat} : ∀ (k r : Nat), r < mh_sumr (fun i => mh_wy cs j (left - i * cs.getD j 0)) (k + 1) → (mh_ch cs j left k r).2 < mh_wy cs j (left - (mh_ch cs j left k r).1 * cs.getD j 0) := by
  intro k
  induction k with
  | zero =>
    intro r hr
    have hr : r < 0 + mh_wy cs j (left - 0 * cs.getD j 0) := hr
    show r < mh_wy cs j (left - 0 * cs.getD j 0)
    omega
  | succ k ih =>
    intro r hr
    have hr : r < mh_sumr (fun i => mh_wy cs j (left - i * cs.getD j 0)) (k + 1) + mh_wy cs j (left - (k + 1) * cs.getD j 0) := hr
    rw [mh_ch]
    by_cases c : r < mh_wy cs j (left - (k + 1) * cs.getD j 0)
    · rw [if_pos c]; exact c
    · rw [if_neg c]; exact ih _ (by omega)
section MhModelH2
variable {h : mh_H} {bd : Nat → Nat} {σ : mh_Sg} {F : Nat → Int32}
theorem mh_r_of_in (k111 : Nat → Int32 → Int32 → Int64 → Int32 → Int32 → mh_H → Option (Int32 × mh_H)) {x1 x5 : Int32} {cs : List Nat} {G : Nat → Nat → Int64} (ho : h (bd 0) = some (.inr (12, mh_rf bd F))) (hO : mh_Oy h (bd 42) (fun j => bd (43 + j))) (hG : mh_Ry h (fun j => bd (43 + j)) G) (hv : ∀ j, j ≤ cs.length → ∀ s, s ≤ 3000 → G j s = lN (mh_wy cs j s)) (hl : cs.length ≤ 12) {j left : Nat} (hj : j < cs.length) (h3 : left ≤ 3000) : ∀ (k m r : Nat), k * cs.getD j 0 ≤ left → k ≤ 3000 → k < m → r < mh_CAP → r < mh_sumr (fun i => mh_wy cs j (left - i * cs.getD j 0)) (k + 1) → f_X12_of_b137 k111 m (bd 0) x1 x5 (lN r) (nI left) (nI (j + 1)) (nI (cs.getD j 0)) (nI k) h = f_X12_of_b190 k111 (bd 0) x1 x5 (lN (mh_ch cs j left k r).2) (nI left) (nI (j + 1)) (nI (cs.getD j 0)) (nI (mh_ch cs j left k r).1) h := by
  have hcap : mh_CAP = 4000000000000000001 := rfl
  have e1 : nI (j + 1) - (1 : Int32) = nI j := pk_sub (b := 1) (by omega)
  intro k
  induction k with
  | zero =>
    intro m r h1 _ h2 h3' h4
    obtain ⟨m, rfl⟩ : ∃ k, m = k + 1 := ⟨m - 1, by omega⟩
    have h4 : r < 0 + mh_wy cs j (left - 0 * cs.getD j 0) := h4
    have wl := mh_wy_le cs j (left - 0 * cs.getD j 0)
    rw [f_X12_of_b137, mh_gR_eq (k := 12) ho rfl, Option.bind_some, e1, mh_aR_eq hO (show j < 13 by omega) (by omega) rfl, Option.bind_some, mh_nI_mul, pk_sub h1, mh_aJ_eq (hG j (by omega)) (show left - 0 * cs.getD j 0 < 3001 by omega) (by omega), Option.bind_some, hv j (by omega) _ (by omega), if_pos ((mh_cltN (by omega) (by omega)).mpr (by omega))]
    rfl
  | succ k ih =>
    intro m r h1 hk h2 h3' h4
    obtain ⟨m, rfl⟩ : ∃ k, m = k + 1 := ⟨m - 1, by omega⟩
    have h4 : r < mh_sumr (fun i => mh_wy cs j (left - i * cs.getD j 0)) (k + 1) + mh_wy cs j (left - (k + 1) * cs.getD j 0) := h4
    have wl := mh_wy_le cs j (left - (k + 1) * cs.getD j 0)
    have h1' : k * cs.getD j 0 ≤ left := Nat.le_trans (Nat.mul_le_mul_right _ (by omega)) h1
    rw [f_X12_of_b137, mh_gR_eq (k := 12) ho rfl, Option.bind_some, e1, mh_aR_eq hO (show j < 13 by omega) (by omega) rfl, Option.bind_some, mh_nI_mul, pk_sub h1, mh_aJ_eq (hG j (by omega)) (show left - (k + 1) * cs.getD j 0 < 3001 by omega) (by omega), Option.bind_some, hv j (by omega) _ (by omega)]
    by_cases c : r < mh_wy cs j (left - (k + 1) * cs.getD j 0)
    · rw [if_pos ((mh_cltN (by omega) (by omega)).mpr c), mh_ch, if_pos c]
    · rw [if_neg (fun q => c ((mh_cltN (by omega) (by omega)).mp q)), Option.bind_some, mh_aR_eq hO (show j < 13 by omega) (by omega) rfl, Option.bind_some, mh_aJ_eq (hG j (by omega)) (show left - (k + 1) * cs.getD j 0 < 3001 by omega) (by omega), Option.bind_some, mh_nm_eq, mh_nm_eq, mh_dec, hv j (by omega) _ (by omega), lN_sub (by omega), ih m _ h1' (by omega) (by omega) (by omega) (by omega), mh_ch, if_neg c]
theorem mh_r_of {cs : List Nat} {p : Nat} {g : Nat → Int32} {G : Nat → Nat → Int64} (hI : mh_Inj bd 99) (hp : p < 8) (ho : h (bd 0) = some (.inr (12, mh_rf bd F))) (hg : h (bd 1) = some (.inl (0, 304, .inl g))) (hgv : ∀ i, i < cs.length → g (13 * p + 1 + i) = nI (cs.getD i 0)) (hO : mh_Oy h (bd 42) (fun j => bd (43 + j))) (hG : mh_Ry h (fun j => bd (43 + j)) G) (hv : ∀ j, j ≤ cs.length → ∀ s, s ≤ 3000 → G j s = lN (mh_wy cs j s)) (hm : mh_ms cs) : ∀ (j m left r : Nat) (hh : mh_H) (f1 f2 : Nat → Int32) (rest : List Nat), j ≤ cs.length → j < m → left ≤ 3000 → r < mh_wy cs j left → mh_fr [bd 57, bd 58] h hh → hh (bd 57) = some (.inl (0, 12, .inl f1)) → hh (bd 58) = some (.inl (0, 12, .inl f2)) → rest.length + j = cs.length → (∀ i, i < rest.length → f1 (j + i) = nI (cs.getD (j + i) 0) ∧ f2 (j + i) = nI (rest.getD i 0)) → (∀ i, rest.getD i 0 ≤ 3000) → ∃ h' f1' f2' L, f_X12_of_b111 m (bd 0) (nI p) (nI cs.length) (lN r) (nI left) (nI j) hh = f_X12_of_b228 (bd 0) (nI cs.length) h' ∧ mh_fr [bd 57, bd 58] h h' ∧ h' (bd 57) = some (.inl (0, 12, .inl f1')) ∧ h' (bd 58) = some (.inl (0, 12, .inl f2')) ∧ L = mh_ly cs j left r ++ rest ∧ (∀ i, i < cs.length → f1' i = nI (cs.getD i 0) ∧ f2' i = nI (L.getD i 0)) ∧ ∀ i, L.getD i 0 ≤ 3000 := by
  have hl := hm.1.1
  have hcap : mh_CAP = 4000000000000000001 := rfl
  intro j
  induction j with
  | zero =>
    intro m left r hh f1 f2 rest _ h2 _ _ h5 h6 h7 h8 h9 h10
    obtain ⟨m, rfl⟩ : ∃ k, m = k + 1 := ⟨m - 1, by omega⟩
    refine ⟨hh, f1, f2, rest, ?_, h5, h6, h7, rfl, fun i hi => ?_, h10⟩
    · rw [f_X12_of_b111, if_pos (by decide)]
    · have := h9 i (by omega)
      rwa [Nat.zero_add] at this
  | succ j ih =>
    intro m left r hh f1 f2 rest h1 h2 h3 h4 h5 h6 h7 h8 h9 h10
    obtain ⟨m, rfl⟩ : ∃ k, m = k + 1 := ⟨m - 1, by omega⟩
    have kp : ∀ y, y < 57 → hh (bd y) = h (bd y) := fun y hy => h5 _ (by simp [hI.ne (show y < 99 by omega) (show 57 < 99 by omega) (by omega), hI.ne (show y < 99 by omega) (show 58 < 99 by omega) (by omega)])
    have ho' := (kp 0 (by omega)).trans ho
    have hg' := (kp 1 (by omega)).trans hg
    have hO' : mh_Oy hh (bd 42) (fun j => bd (43 + j)) := (kp 42 (by omega)).trans hO
    have hG' : mh_Ry hh (fun j => bd (43 + j)) G := fun z hz => (kp (43 + z) (by omega)).trans (hG z hz)
    have cb := hm.1.get (show j < cs.length by omega)
    have z0 : ¬ nI (cs.getD j 0) = 0 := fun q => absurd ((mh_eqr (b := 0) 0 rfl (by omega) (by omega)).mp q) (by omega)
    have e1 : nI (13 * p) + nI (j + 1) = nI (13 * p + 1 + j) := by rw [nI_add]; congr 1; omega
    have e2 : nI (j + 1) - (1 : Int32) = nI j := pk_sub (b := 1) (by omega)
    have dl := Nat.div_mul_le_self left (cs.getD j 0)
    have d2 := Nat.div_le_self left (cs.getD j 0)
    have wl := mh_wy_le cs (j + 1) left
    have ws := mh_wy_sum (cs := cs) (j := j) cb.1 left
    have inn := mh_r_of_in (h := hh) (F := F) (f_X12_of_b111 m) (x1 := nI p) (x5 := nI cs.length) ho' hO' hG' hv hl (show j < cs.length by omega) h3 (left / cs.getD j 0) mh_fu r dl (by omega) (mh_fuel _ (by omega)) (by omega) (by omega)
    have ck := mh_ch_ok (cs := cs) (j := j) (left := left) (left / cs.getD j 0) r (by omega)
    have cl := mh_ch_le cs j left (left / cs.getD j 0) r
    obtain ⟨k', ek⟩ : ∃ k', k' = (mh_ch cs j left (left / cs.getD j 0) r).1 := ⟨_, rfl⟩
    obtain ⟨r', er⟩ : ∃ r', r' = (mh_ch cs j left (left / cs.getD j 0) r).2 := ⟨_, rfl⟩
    have ely : mh_ly cs (j + 1) left r = mh_ly cs j (left - k' * cs.getD j 0) r' ++ [k'] := by rw [ek, er]; rfl
    rw [← ek, ← er] at inn ck cl
    have kl : k' * cs.getD j 0 ≤ left := Nat.le_trans (Nat.mul_le_mul_right _ cl.1) dl
    obtain ⟨H1, eH1⟩ : ∃ H1, H1 = mh_up hh (bd 57) (.inl (0, 12, .inl (upd f1 j (nI (cs.getD j 0))))) := ⟨_, rfl⟩
    have s1 : mh_sI hh (bd 57) (nI j) (nI (cs.getD j 0)) = some H1 := by rw [eH1]; exact mh_sI_eq h6 (by omega) (by omega)
    have o1 : H1 (bd 0) = some (.inr (12, mh_rf bd F)) := by rw [eH1, mh_up_ne (hI.ne (by omega) (by omega) (by omega))]; exact ho'
    have g1 : H1 (bd 58) = some (.inl (0, 12, .inl f2)) := by rw [eH1, mh_up_ne (hI.ne (by omega) (by omega) (by omega))]; exact h7
    obtain ⟨H2, eH2⟩ : ∃ H2, H2 = mh_up H1 (bd 58) (.inl (0, 12, .inl (upd f2 j (nI k')))) := ⟨_, rfl⟩
    have s2 : mh_sI H1 (bd 58) (nI j) (nI k') = some H2 := by rw [eH2]; exact mh_sI_eq g1 (by omega) (by omega)
    obtain ⟨h', f1', f2', L, w1, w2, w3, w4, w5, w6, w7⟩ := ih m (left - k' * cs.getD j 0) r' H2 (upd f1 j (nI (cs.getD j 0))) (upd f2 j (nI k')) (k' :: rest) (by omega) (by omega) (by omega) ck (by rw [eH2, eH1]; exact h5.trans ((mh_fr.up (by simp)).trans (mh_fr.up (by simp)))) (by rw [eH2, mh_up_ne (hI.ne (by omega) (by omega) (by omega)), eH1]; exact mh_up_eq _ _ _) (by rw [eH2]; exact mh_up_eq _ _ _) (by rw [List.length_cons]; omega) (fun i hi => by
      rw [List.length_cons] at hi
      cases i with
      | zero => exact ⟨by rw [Nat.add_zero, pk_us], by rw [Nat.add_zero, pk_us]; rfl⟩
      | succ i =>
        have := h9 i (by omega)
        rw [show j + 1 + i = j + (i + 1) by omega] at this
        exact ⟨by rw [pk_un (by omega)]; exact this.1, by rw [pk_un (by omega)]; exact this.2⟩) (fun i => by
      cases i with
      | zero => show k' ≤ 3000; omega
      | succ i => exact h10 i)
    refine ⟨h', f1', f2', L, ?_, w2, w3, w4, ?_, w6, w7⟩
    · rw [f_X12_of_b111, if_neg (nI_nle (by omega) (by omega)), mh_gR_eq (k := 1) ho' rfl, Option.bind_some, mh_b2_eq mh_r_mintAt, e1, mh_aI_eq hg' (show 13 * p + 1 + j < 304 by omega) (by omega), Option.bind_some, hgv j (by omega), mh_nz_eq z0, mh_nm_eq, pk_div (by omega) (by omega) (by omega), inn]
      unfold f_X12_of_b190
      rw [mh_gR_eq (k := 17) ho' rfl, Option.bind_some, e2, s1, Option.bind_some, mh_gR_eq (k := 18) o1 rfl, Option.bind_some, s2, Option.bind_some, mh_nI_mul, pk_sub kl, mh_nm_eq, mh_nm_eq, mh_dec]
      exact w1
    · rw [w5, ely, List.append_assoc]
      rfl
theorem mh_M_of (hR : mh_RI h bd σ F) (x1 x2 : Int32) (y : Int64) : ∃ r v h' σ' F', f_X12_of_e (bd 0) x1 x2 y h = some (v, h') ∧ mh_Sof σ x1 x2 y r σ' ∧ mh_an r v F' ∧ mh_RI h' bd σ' F' ∧ mh_frR bd h h' := by
  obtain ⟨h1, F1, p1, R1, z1, f1⟩ := mh_r_code hR
  unfold f_X12_of_e
  rw [p1, Option.bind_some]
  rcases mh_r_isMint (h := h1) x1 with ⟨p, a1, a2, a3⟩ | ⟨a1, a3⟩
  · subst a2
    rw [mh_b2_eq a3, if_neg (by decide)]
    have bad : (∀ s, s ≤ 3000 → x2 ≠ nI s) → ∃ r v h' σ' F', f_X12_of_b31 (bd 0) h1 = some (v, h') ∧ mh_Sof σ (nI p) x2 y r σ' ∧ mh_an r v F' ∧ mh_RI h' bd σ' F' ∧ mh_frR bd h h' := fun hb => by
      obtain ⟨h2, F2, y1, R2, z2, f2⟩ := mh_r_fl R1 2 (fun _ h11 => mh_rz (0 : Int32) h11)
      exact ⟨.inl 2, 0, h2, σ, F2, y1, Or.inr ⟨p, a1, rfl, Or.inl ⟨hb, rfl, rfl⟩⟩, Or.inr ⟨2, rfl, z2⟩, R2, f1.trans f2⟩
    rcases mh_sgn x2 with ⟨q1, q2⟩ | ⟨q1, s, q2, q3⟩
    · rw [if_pos q1]
      exact bad (fun s hs => q2 s (by omega))
    · subst q3
      rw [if_neg q1]
      by_cases c : s < 3001
      · obtain ⟨g, hg, hw⟩ := R1.2 1 (by omega)
        obtain ⟨w1, w2, w3, w4, _⟩ := hw p a1
        obtain ⟨h2, y1, R2, W2, f2⟩ := mh_r_countM R1 a1
        obtain ⟨g', hg', hw'⟩ := R2.2 1 (by omega)
        have w4' := (hw' p a1).2.2.2.1
        obtain ⟨G, v1, v2, v3⟩ := W2
        have hl := w1.1.1
        have hcap : mh_CAP = 4000000000000000001 := rfl
        have wl := mh_wy_le (mh_mi σ p) (mh_mi σ p).length s
        rw [if_pos ((mh_ltr (b := 3001) 3001 rfl (by omega) (by omega)).mpr c), mh_gR_eq (k := 1) R1.ob rfl, Option.bind_some, mh_b2_eq mh_r_mintAt, mh_aI_eq hg (show 13 * p < 304 by omega) (by omega), Option.bind_some, w3, mh_gR_eq (k := 1) R1.ob rfl, Option.bind_some, mh_b2_eq mh_r_mintAt, nI_1, mh_cal_eq R1.ob, y1, Option.bind_some, mh_gR_eq (k := 12) R2.ob rfl, Option.bind_some, mh_aR_eq v1 (show (mh_mi σ p).length < 13 by omega) (by omega) rfl, Option.bind_some, mh_aJ_eq (v2 _ (by omega)) (show s < 3001 by omega) (by omega), Option.bind_some, v3 _ (Nat.le_refl _) s (by omega)]
        have no : (∀ k, ¬ mh_Pof (mh_mi σ p) s y k) → ∃ r v h' σ' F', f_X12_of_b99 h2 = some (v, h') ∧ mh_Sof σ (nI p) (nI s) y r σ' ∧ mh_an r v F' ∧ mh_RI h' bd σ' F' ∧ mh_frR bd h h' := fun hn => ⟨.inr 0, 0, h2, σ, F1, rfl, Or.inr ⟨p, a1, rfl, Or.inr ⟨s, by omega, rfl, Or.inr ⟨hn, rfl, rfl⟩⟩⟩, Or.inl ⟨rfl, z1⟩, R2, f1.trans f2⟩
        by_cases hneg : y < 0
        · have cc : lg_cmp y (0 : Int64) < 0 := (mh_clt _ _).mpr (fun q => q.elim (fun q => Int64.lt_irrefl (Int64.lt_trans hneg q)) (fun q => by rw [q] at hneg; exact Int64.lt_irrefl hneg))
          rw [if_pos cc]
          refine no (fun k hk => ?_)
          have q1 := hk.2.1
          have q2 := hk.2.2
          rw [hk.1] at hneg
          have := (pk_lLT (b := 0) (by omega) (by omega)).mp hneg
          omega
        · obtain ⟨k, k1, k2⟩ := pk_lOf hneg
          subst k2
          have cc : ¬ lg_cmp (lN k) (0 : Int64) < 0 := fun q => absurd ((mh_cltN (b := 0) k1 (by omega)).mp q) (by omega)
          have kk : ∀ k', mh_Pof (mh_mi σ p) s (lN k) k' → k' = k := fun k' hk => by
            have q1 := hk.2.1
            exact ((mh_lN_inj k1 (by omega)).mp hk.1).symm
          rw [if_neg cc]
          by_cases c2 : mh_wy (mh_mi σ p) (mh_mi σ p).length s ≤ k
          · rw [if_pos ((mh_cgeN (by omega) (by omega)).mpr c2)]
            refine no (fun k' hk => ?_)
            have e := kk k' hk
            have := hk.2.1
            omega
          · rw [if_neg (fun q => c2 ((mh_cgeN (by omega) (by omega)).mp q))]
            by_cases c3 : mh_wy (mh_mi σ p) (mh_mi σ p).length s ≤ 4000000000000000000
            · rw [if_pos (show lg_cmp (lN (mh_wy (mh_mi σ p) (mh_mi σ p).length s)) (4000000000000000000 : Int64) ≤ 0 from (mh_cleN (b := 4000000000000000000) (by omega) (by omega)).mpr c3)]
              obtain ⟨t1, t2, hd1, hd2, hd3⟩ := R2.2 7 (by omega)
              have hP : mh_Pof (mh_mi σ p) s (lN k) k := ⟨rfl, by omega, c3⟩
              obtain ⟨h3, f1', f2', L, x1, x2, x3, x4, x5, x6, x7⟩ := mh_r_of R2.1 a1 R2.ob hg' w4' v1 v2 v3 w1 (mh_mi σ p).length mh_fu s k h2 t1 t2 [] (Nat.le_refl _) (mh_fuel _ (by omega)) (by omega) (by omega) mh_fr.rfl hd1 hd2 (Nat.zero_add _) (fun i hi => absurd hi (Nat.not_lt_zero i)) (fun i => Nat.zero_le _)
              rw [List.append_nil] at x5
              rw [x1]
              have hI := R2.1
              have o3 : h3 (bd 0) = some (.inr (12, mh_rf bd F1)) := (x2 _ (by simp [hI.ne (show 0 < 99 by omega) (show 57 < 99 by omega) (by omega), hI.ne (show 0 < 99 by omega) (show 58 < 99 by omega) (by omega)])).trans R2.ob
              have p4 : mh_pI h3 (bd 0) 12 16 (nI (mh_mi σ p).length) = some (mh_up h3 (bd 0) (.inr (12, mh_rf bd (upd F1 16 (nI (mh_mi σ p).length))))) := mh_pI_s _ o3 ⟨show 16 < 38 by omega, rfl⟩
              obtain ⟨h4, e4⟩ : ∃ h4, h4 = mh_up h3 (bd 0) (.inr (12, mh_rf bd (upd F1 16 (nI (mh_mi σ p).length)))) := ⟨_, rfl⟩
              have o4 : h4 (bd 0) = some (.inr (12, mh_rf bd (upd F1 16 (nI (mh_mi σ p).length)))) := by rw [e4]; exact mh_up_eq _ _ _
              have p5 : mh_pZ h4 (bd 0) 12 15 1 = some (mh_up h4 (bd 0) (.inr (12, mh_rf bd (upd (upd F1 16 (nI (mh_mi σ p).length)) 15 1)))) := by
                unfold mh_pZ
                rw [if_pos (Or.inr rfl)]
                exact mh_pI_s _ o4 ⟨show 15 < 38 by omega, rfl⟩
              obtain ⟨h5, e5⟩ : ∃ h5, h5 = mh_up h4 (bd 0) (.inr (12, mh_rf bd (upd (upd F1 16 (nI (mh_mi σ p).length)) 15 1))) := ⟨_, rfl⟩
              have k5 : ∀ b, b ≠ bd 0 → h5 b = h3 b := fun b hb => by rw [e5, mh_up_ne hb, e4, mh_up_ne hb]
              obtain ⟨i1, i2, i3, i4, i5⟩ := R2.ii
              obtain ⟨R5, f5⟩ := R2.mul (h' := h5) (σ' := mh_seth σ (some (mh_mi σ p, L))) (F' := upd (upd F1 16 (nI (mh_mi σ p).length)) 15 1) [0, 7] (fun i hi => by simp only [List.mem_cons, List.not_mem_nil, or_false] at hi; omega) (fun b hb => by
                have b0 : b ≠ bd 0 := hb 0 (by decide) 0 (by decide) (by decide)
                exact (k5 b b0).trans (x2 b (by simp [hb 7 (by decide) 57 (by decide) (by decide), hb 7 (by decide) 58 (by decide) (by decide)]))) (fun i hi => by
                simp only [List.mem_cons, List.not_mem_nil, or_false] at hi
                rcases hi with rfl | rfl
                · exact ⟨by rw [e5]; exact mh_up_eq _ _ _, i1, i2, i3, i4, rfl⟩
                · exact ⟨f1', f2', (k5 _ (hI.ne (by omega) (by omega) (by omega))).trans x3, (k5 _ (hI.ne (by omega) (by omega) (by omega))).trans x4, rfl, w1, by rw [x5, mh_ly_len], x7, x6⟩) (fun j hj hn hc => by
                simp only [List.mem_cons, List.not_mem_nil, or_false] at hn
                obtain rfl | rfl | rfl | rfl | rfl | rfl | rfl | rfl | rfl : j = 1 ∨ j = 2 ∨ j = 3 ∨ j = 4 ∨ j = 5 ∨ j = 6 ∨ j = 8 ∨ j = 9 ∨ j = 10 := by omega
                all_goals exact hc)
              refine ⟨.inr 1, 1, h5, _, upd (upd F1 16 (nI (mh_mi σ p).length)) 15 1, ?_, Or.inr ⟨p, a1, rfl, Or.inr ⟨s, by omega, rfl, Or.inl ⟨k, hP, rfl, rfl⟩⟩⟩, Or.inl ⟨rfl, z1⟩, by rw [x5] at R5; exact R5, (f1.trans f2).trans f5⟩
              unfold f_X12_of_b228
              rw [p4, ← e4, Option.bind_some, p5, ← e5, Option.bind_some]
              rfl
            · rw [if_neg (fun q : lg_cmp (lN (mh_wy (mh_mi σ p) (mh_mi σ p).length s)) (4000000000000000000 : Int64) ≤ 0 => c3 ((mh_cleN (b := 4000000000000000000) (by omega) (by omega)).mp q))]
              exact no (fun k' hk => c3 hk.2.2)
      · rw [if_neg (fun q => c ((mh_ltr (b := 3001) 3001 rfl (by omega) (by omega)).mp q))]
        refine bad (fun t ht e => c ?_)
        have := (nI_eq (by omega) (by omega)).mp e
        omega
  · obtain ⟨h2, F2, y1, R2, z2, f2⟩ := mh_r_fl R1 1 (fun _ h11 => mh_rz (0 : Int32) h11)
    have y1 : mh_b2 (mh_cal h1 (bd 0) 12 (f_X12_fail_e (bd 0) (1 : Int32) h1)) _ = _ := y1
    rw [mh_b2_eq a3, if_pos rfl, y1]
    exact ⟨.inl 1, 0, h2, σ, F2, rfl, Or.inl ⟨a1, rfl, rfl⟩, Or.inr ⟨1, rfl, z2⟩, R2, f1.trans f2⟩
end MhModelH2
