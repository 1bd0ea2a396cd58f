theorem mh_i1 (u w : Int32) : (u + 1 - 3) - (-3 - w) = u + 1 + w := by grind
theorem mh_i2 (d k n c : Int32) : d + (k - n) * c = d + k * c - n * c := by grind
theorem mh_neg3 {x : Int32} (h : ¬ (-3 : Int32) < x) : ∃ j, j < 2 ^ 31 ∧ x = -3 - nI j ∧ (-3 : Int64) - x.toInt64 = lN j := by
  have h1 : x.toInt ≤ -3 := by
    have := Int32.not_lt.mp h
    have := Int32.le_iff_toInt_le.mp this
    exact this
  have h2 := Int32.le_toInt x
  obtain ⟨j, ej⟩ : ∃ j : Nat, (j : Int) = -3 - x.toInt := ⟨(-3 - x.toInt).toNat, by omega⟩
  refine ⟨j, by omega, ?_, ?_⟩
  · apply Int32.toInt_inj.mp
    rw [Int32.toInt_sub, nI_toInt (by omega), show (-3 : Int32).toInt = -3 from rfl, Int.bmod_eq_of_le (by omega) (by omega)]
    omega
  · apply Int64.toInt_inj.mp
    rw [Int64.toInt_sub, Int32.toInt_toInt64, show (-3 : Int64).toInt = -3 from rfl, Int.bmod_eq_of_le (by omega) (by omega)]
    unfold lN
    rw [Int64.toInt_ofNat_of_lt (by omega)]
    omega
theorem mh_Rw.purse {g g' : Nat → Int32} {m c n : Nat → List Nat} (hw : mh_Rw g m c n) {p : Nat} (hp : p < 8) {C N : List Nat} (hz : mh_pz C N) (h0 : g' (104 + 25 * p) = nI C.length) (h1 : ∀ i, i < C.length → g' (104 + 25 * p + 1 + i) = nI (C.getD i 0) ∧ g' (104 + 25 * p + 13 + i) = nI (N.getD i 0)) (h2 : ∀ j, j < 304 → (j < 104 + 25 * p ∨ 104 + 25 * p + 25 ≤ j) → g' j = g j) : mh_Rw g' m (fun q => if q = p then C else c q) (fun q => if q = p then N else n q) := fun q hq => by
  obtain ⟨a1, a2, a3, a4, a5, a6⟩ := hw q hq
  have l1 := a1.1.1
  have l2 := a2.1.1.1
  have l3 := hz.1.1.1
  show _ ∧ mh_pz (if q = p then C else c q) (if q = p then N else n q) ∧ _ ∧ _ ∧ _ = nI (if q = p then C else c q).length ∧ ∀ i, i < (if q = p then C else c q).length → _ = nI ((if q = p then C else c q).getD i 0) ∧ _ = nI ((if q = p then N else n q).getD i 0)
  by_cases e : q = p
  · subst e
    rw [if_pos rfl, if_pos rfl]
    exact ⟨a1, hz, (h2 _ (by omega) (by omega)).trans a3, fun i hi => (h2 _ (by omega) (by omega)).trans (a4 i hi), h0, h1⟩
  · rw [if_neg e, if_neg e]
    exact ⟨a1, a2, (h2 _ (by omega) (by omega)).trans a3, fun i hi => (h2 _ (by omega) (by omega)).trans (a4 i hi), (h2 _ (by omega) (by omega)).trans a5, fun i hi => ⟨(h2 _ (by omega) (by omega)).trans (a6 i hi).1, (h2 _ (by omega) (by omega)).trans (a6 i hi).2⟩⟩
section MhModelPu
variable {h : mh_H} {bd : Nat → Nat} {σ : mh_Sg} {F : Nat → Int32}
theorem mh_RI.rm (hR : mh_RI h bd σ F) {h2 : mh_H} {g' : Nat → Int32} {m c n : Nat → List Nat} (hg : h2 (bd 1) = some (.inl (0, 304, .inl g'))) (hf : mh_fr [bd 1] h h2) (hw : mh_Rw g' m c n) : mh_RM h2 bd σ F m c n := ⟨hR.1, fun i hi he => mh_rc_keep hi (fun k k1 k2 => hf _ (by
    have := (mh_rr_le hi).2
    simp [hR.1.ne (show k < 99 by omega) (show 1 < 99 by omega) (mh_rr_sep (i := 1) (by omega) hi he k1 k2 (m := 1) (by decide) (by decide))])) (hR.2 i hi), g', hg, hw⟩
theorem mh_fs_at {f : Nat → List Nat} {p q : Nat} {C : List Nat} (hq : q < 8) : mh_fs (mh_cp σ f) (mh_nx σ * 8 + p) C (mh_nx σ * 8 + q) = if q = p then C else f (σ.1.1 * 8 + q) := by
  unfold mh_fs
  by_cases e : q = p
  · rw [if_pos (by rw [e]), if_pos e]
  · rw [if_neg (by omega), if_neg e]
    exact mh_cp_at hq
theorem mh_fs_off {f : Nat → List Nat} {p q j : Nat} {C : List Nat} (hp : p < 8) (hq : q < 8) (hn : j ≠ mh_nx σ) : mh_fs (mh_cp σ f) (mh_nx σ * 8 + p) C (j * 8 + q) = f (j * 8 + q) := by
  unfold mh_fs
  rw [if_neg (by omega)]
  exact mh_cp_off hq hn
/-- a purse of now becomes C, N, and what is now is kept -/
theorem mh_r_purse (hR : mh_RI h bd σ F) {p : Nat} (hp : p < 8) {C N : List Nat} {h2 : mh_H} {g' : Nat → Int32} (hg : h2 (bd 1) = some (.inl (0, 304, .inl g'))) (hf : mh_fr [bd 1] h h2) (hz : mh_pz C N) (q0 : g' (104 + 25 * p) = nI C.length) (q1 : ∀ i, i < C.length → g' (104 + 25 * p + 1 + i) = nI (C.getD i 0) ∧ g' (104 + 25 * p + 13 + i) = nI (N.getD i 0)) (q2 : ∀ g, h (bd 1) = some (.inl (0, 304, .inl g)) → ∀ j, j < 304 → (j < 104 + 25 * p ∨ 104 + 25 * p + 25 ≤ j) → g' j = g j) : ∃ h' F', f_X12_changed_e (bd 0) h2 = some h' ∧ mh_RI h' bd (mh_setp (mh_bg σ) (mh_nx σ * 8 + p) C N) F' ∧ (∀ j, j ≠ 3 → j ≠ 4 → j ≠ 5 → F' j = F j) ∧ mh_frR bd h h' := by
  obtain ⟨g, hg0, hw⟩ := hR.2 1 (by omega)
  have hRM := hR.rm hg hf (hw.purse hp hz q0 q1 (q2 g hg0))
  obtain ⟨h', F', y1, y2, y3, y4⟩ := mh_r_changed hRM (σ' := mh_setp (mh_bg σ) (mh_nx σ * 8 + p) C N) rfl rfl (fun q hq => ⟨mh_cp_at hq, mh_fs_at hq, mh_fs_at hq⟩) (fun j hj hn q hq => ⟨mh_cp_off hq hn, mh_fs_off hp hq hn, mh_fs_off hp hq hn⟩)
  exact ⟨h', F', y1, y2, y3, fun b hb => (y4 b hb).trans (hf b (by simp [hb 1 (by omega)]))⟩
theorem mh_M_open (hR : mh_RI h bd σ F) (x1 x2 : Int32) : ∃ r h' σ' F', f_X12_open_e (bd 0) x1 x2 h = some h' ∧ mh_Sopen σ x1 x2 r σ' ∧ mh_an r () F' ∧ mh_RI h' bd σ' F' ∧ mh_frR bd h h' := by
  obtain ⟨h1, F1, p1, R1, z1, f1⟩ := mh_r_code hR
  unfold f_X12_open_e
  rw [p1, Option.bind_some]
  have bad : (∀ p q, p < 8 → q < 8 → ¬ (x1 = nI p ∧ x2 = nI q)) → ∃ r h' σ' F', f_X12_open_b19 (bd 0) h1 = some h' ∧ mh_Sopen σ x1 x2 r σ' ∧ mh_an r () F' ∧ mh_RI h' bd σ' F' ∧ mh_frR bd h h' := fun hb => by
    obtain ⟨h2, F2, y1, R2, z2, f2⟩ := mh_r_fl R1 1 (fun _ h11 => some h11)
    exact ⟨.inl 1, h2, σ, F2, y1, Or.inr ⟨hb, rfl, rfl⟩, Or.inr ⟨1, rfl, z2⟩, R2, f1.trans f2⟩
  rcases mh_r_isMint (h := h1) x1 with ⟨p, a1, a2, a3⟩ | ⟨a1, a3⟩
  · subst a2
    rw [mh_b2_eq a3, if_neg (by decide)]
    rcases mh_r_isMint (h := h1) x2 with ⟨q, b1, b2, b3⟩ | ⟨b1, b3⟩
    · subst b2
      obtain ⟨g, hg, hw⟩ := R1.2 1 (by omega)
      obtain ⟨w1, _, w3, w4, _⟩ := hw q b1
      have hI := R1.1
      have good : ∀ σ', σ' = mh_setp (mh_bg σ) (mh_nx σ * 8 + p) (mh_mi σ q) (List.replicate (mh_mi σ q).length 0) → mh_Sopen σ (nI p) (nI q) (.inr ()) σ' := fun σ' e => Or.inl ⟨p, q, a1, b1, rfl, rfl, rfl, e⟩
      obtain ⟨C, eC⟩ : ∃ C, C = mh_mi σ q := ⟨_, rfl⟩
      rw [← eC] at w1 w3 w4 good
      have hl := w1.1.1
      obtain ⟨H1, eH1⟩ : ∃ H1, H1 = mh_up h1 (bd 1) (.inl (0, 304, .inl (upd g (104 + 25 * p) (nI C.length)))) := ⟨_, rfl⟩
      have s1 : mh_sI h1 (bd 1) (nI (104 + 25 * p)) (nI C.length) = some H1 := by rw [eH1]; exact mh_sI_eq hg (by omega) (by omega)
      have key := mh_wh (fun m (s : Nat × mh_H) => f_X12_open_b49 m (bd 0) (nI q) (nI (104 + 25 * p)) (nI s.1) s.2) (fun (r : mh_H) => f_X12_open_b115 (bd 0) r) (fun s => s.1 ≤ 12 ∧ mh_fr [bd 1] h1 s.2 ∧ ∃ g', s.2 (bd 1) = some (.inl (0, 304, .inl g')) ∧ g' (104 + 25 * p) = nI C.length ∧ (∀ i, i < s.1 → i < C.length → g' (104 + 25 * p + 1 + i) = nI (C.getD i 0) ∧ g' (104 + 25 * p + 13 + i) = nI 0) ∧ ∀ j, j < 304 → (j < 104 + 25 * p ∨ 104 + 25 * p + 25 ≤ j) → g' j = g j) (fun s => 12 - s.1) (fun r => mh_fr [bd 1] h1 r ∧ ∃ g', r (bd 1) = some (.inl (0, 304, .inl g')) ∧ g' (104 + 25 * p) = nI C.length ∧ (∀ i, i < C.length → g' (104 + 25 * p + 1 + i) = nI (C.getD i 0) ∧ g' (104 + 25 * p + 13 + i) = nI 0) ∧ ∀ j, j < 304 → (j < 104 + 25 * p ∨ 104 + 25 * p + 25 ≤ j) → g' j = g j)
        (fun m s hs => by
          obtain ⟨k, hh⟩ := s
          obtain ⟨q1, q2, g', q3, q4, q5, q6⟩ := hs
          have q1 : k ≤ 12 := q1
          have q2 : mh_fr [bd 1] h1 hh := q2
          have q3 : hh (bd 1) = some (.inl (0, 304, .inl g')) := q3
          have q5 : ∀ i, i < k → i < C.length → g' (104 + 25 * p + 1 + i) = nI (C.getD i 0) ∧ g' (104 + 25 * p + 13 + i) = nI 0 := q5
          show (∃ s', _ ∧ _ ∧ f_X12_open_b49 (m + 1) (bd 0) (nI q) (nI (104 + 25 * p)) (nI k) hh = _) ∨ ∃ r, _ ∧ f_X12_open_b49 (m + 1) (bd 0) (nI q) (nI (104 + 25 * p)) (nI k) hh = _
          have ho' := (q2 (bd 0) (by simp [hI.ne (show 0 < 99 by omega) (show 1 < 99 by omega) (by omega)])).trans R1.ob
          rw [f_X12_open_b49]
          by_cases c : k < 12
          · left
            have e1 : nI (104 + 25 * p) + (1 : Int32) + nI k = nI (104 + 25 * p + 1 + k) := by rw [nI_1, nI_add]
            have e13 : nI (104 + 25 * p) + (13 : Int32) + nI k = nI (104 + 25 * p + 13 + k) := by rw [show (13 : Int32) = nI 13 from rfl, nI_add, nI_add]
            have fin : ∀ v, (k < C.length → v = nI (C.getD k 0)) → ∃ s' : Nat × mh_H, (s'.1 ≤ 12 ∧ mh_fr [bd 1] h1 s'.2 ∧ ∃ g', s'.2 (bd 1) = some (.inl (0, 304, .inl g')) ∧ g' (104 + 25 * p) = nI C.length ∧ (∀ i, i < s'.1 → i < C.length → g' (104 + 25 * p + 1 + i) = nI (C.getD i 0) ∧ g' (104 + 25 * p + 13 + i) = nI 0) ∧ ∀ j, j < 304 → (j < 104 + 25 * p ∨ 104 + 25 * p + 25 ≤ j) → g' j = g j) ∧ 12 - s'.1 < 12 - k ∧ f_X12_open_b95 (f_X12_open_b49 m) (bd 0) (nI q) (nI (104 + 25 * p)) (nI k) (bd 1) (nI (104 + 25 * p + 1 + k)) v hh = f_X12_open_b49 m (bd 0) (nI q) (nI (104 + 25 * p)) (nI s'.1) s'.2 := fun v hv => by
              obtain ⟨H2, eH2⟩ : ∃ H2, H2 = mh_up hh (bd 1) (.inl (0, 304, .inl (upd g' (104 + 25 * p + 1 + k) v))) := ⟨_, rfl⟩
              have s2 : mh_sI hh (bd 1) (nI (104 + 25 * p + 1 + k)) v = some H2 := by rw [eH2]; exact mh_sI_eq q3 (by omega) (by omega)
              have o2 : H2 (bd 0) = some (.inr (12, mh_rf bd F1)) := by rw [eH2, mh_up_ne (hI.ne (by omega) (by omega) (by omega))]; exact ho'
              have g2 : H2 (bd 1) = some (.inl (0, 304, .inl (upd g' (104 + 25 * p + 1 + k) v))) := by rw [eH2]; exact mh_up_eq _ _ _
              have s3 : mh_sI H2 (bd 1) (nI (104 + 25 * p + 13 + k)) (0 : Int32) = some (mh_up H2 (bd 1) (.inl (0, 304, .inl (upd (upd g' (104 + 25 * p + 1 + k) v) (104 + 25 * p + 13 + k) 0)))) := mh_sI_eq g2 (by omega) (by omega)
              refine ⟨(k + 1, mh_up H2 (bd 1) (.inl (0, 304, .inl (upd (upd g' (104 + 25 * p + 1 + k) v) (104 + 25 * p + 13 + k) 0)))), ⟨c, by rw [eH2]; exact q2.trans ((mh_fr.up List.mem_cons_self).trans (mh_fr.up List.mem_cons_self)), _, mh_up_eq _ _ _, by rw [pk_un (by omega), pk_un (by omega)]; exact q4, fun i hi hc => ?_, fun j hj hn => by rw [pk_un (by omega), pk_un (by omega)]; exact q6 j hj hn⟩, by show 12 - (k + 1) < 12 - k; omega, ?_⟩
              · have hi : i < k + 1 := hi
                by_cases e : i = k
                · subst e
                  exact ⟨by rw [pk_un (by omega), pk_us]; exact hv hc, by rw [pk_us]; rfl⟩
                · exact ⟨by rw [pk_un (by omega), pk_un (by omega)]; exact (q5 i (by omega) hc).1, by rw [pk_un (by omega), pk_un (by omega)]; exact (q5 i (by omega) hc).2⟩
              · unfold f_X12_open_b95
                rw [s2, Option.bind_some, mh_gR_eq (k := 1) o2 rfl, Option.bind_some, e13, s3, Option.bind_some, mh_nm_eq, mh_inc]
            rw [if_neg (fun q => absurd ((mh_lel (a := 12) 12 rfl (by omega) (by omega)).mp q) (by omega)), mh_gR_eq (k := 1) ho' rfl, Option.bind_some, Option.bind_some, mh_aI_eq q3 (show 104 + 25 * p < 304 by omega) (by omega), Option.bind_some, q4, e1]
            by_cases c2 : k < C.length
            · have e2 : nI (13 * q) + (1 : Int32) + nI k = nI (13 * q + 1 + k) := by rw [nI_1, nI_add]
              rw [if_neg (fun q => absurd ((nI_leI (by omega) (by omega)).mp q) (by omega)), Option.bind_some, mh_b2_eq mh_r_mintAt, e2, mh_aI_eq q3 (show 13 * q + 1 + k < 304 by omega) (by omega), Option.bind_some]
              exact fin _ (fun _ => by rw [q6 _ (by omega) (by omega)]; exact w4 k c2)
            · rw [if_pos ((nI_leI (by omega) (by omega)).mpr (by omega))]
              exact fin _ (fun q => absurd q c2)
          · right
            exact ⟨hh, ⟨q2, g', q3, q4, fun i hi => q5 i (by omega) hi, q6⟩, by rw [if_pos ((mh_lel (a := 12) 12 rfl (by omega) (by omega)).mpr (by omega))]⟩)
        12 mh_fu (0, H1) (by show 12 - 0 ≤ 12; omega) ⟨Nat.zero_le _, by rw [eH1]; exact mh_fr.up List.mem_cons_self, upd g (104 + 25 * p) (nI C.length), by show H1 (bd 1) = _; rw [eH1]; exact mh_up_eq _ _ _, pk_us, fun i hi => absurd hi (Nat.not_lt_zero i), fun j hj hn => by rw [pk_un (by omega)]⟩ (mh_fuel _ (by omega))
      obtain ⟨h2, ⟨v1, g', v2, v3, v4, v5⟩, v6⟩ := key
      have v6 : f_X12_open_b49 mh_fu (bd 0) (nI q) (nI (104 + 25 * p)) 0 H1 = f_X12_open_b115 (bd 0) h2 := v6
      have rg : ∀ i, (List.replicate C.length 0).getD i 0 = 0 := fun i => by
        rw [List.getD_eq_getElem?_getD, List.getElem?_replicate]
        by_cases e : i < C.length
        · rw [if_pos e]; rfl
        · rw [if_neg e]; rfl
      have hz : mh_pz C (List.replicate C.length 0) := ⟨w1, List.length_replicate, fun j => by rw [rg]; omega, by rw [mh_dot_rep]; omega⟩
      obtain ⟨h3, F3, u1, R3, u3, f3⟩ := mh_r_purse R1 a1 v2 v1 hz v3 (fun i hi => ⟨(v4 i hi).1, by rw [rg]; exact (v4 i hi).2⟩) (fun g0 hg0 j hj hn => by
        rw [hg] at hg0
        cases hg0
        exact v5 j hj hn)
      have o2 : h2 (bd 0) = _ := (v1 _ (by simp [hI.ne (show 0 < 99 by omega) (show 1 < 99 by omega) (by omega)])).trans R1.ob
      rw [mh_b2_eq b3, if_neg (by decide), mh_b2_eq mh_r_purseAt, mh_gR_eq (k := 1) R1.ob rfl, Option.bind_some, Option.bind_some, mh_b2_eq mh_r_mintAt, mh_aI_eq hg (show 13 * q < 304 by omega) (by omega), Option.bind_some, w3, s1, Option.bind_some, mh_nm_eq, v6]
      unfold f_X12_open_b115
      rw [mh_cal_eq o2, u1, Option.bind_some]
      exact ⟨.inr (), h3, _, F3, rfl, good _ rfl, Or.inl ⟨rfl, (u3 0 (by omega) (by omega) (by omega)).trans z1⟩, R3, f1.trans f3⟩
    · rw [mh_b2_eq b3, if_pos rfl]
      exact bad (fun a b _ hb q => b1 b hb q.2)
  · rw [mh_b2_eq a3, if_pos rfl]
    exact bad (fun a b ha _ q => a1 a ha q.1)
theorem mh_r_allOf {g : Nat → Int32} {c n : List Nat} {p : Nat} (hp : p < 8) (ho : h (bd 0) = some (.inr (12, mh_rf bd F))) (hg : h (bd 1) = some (.inl (0, 304, .inl g))) (hz : mh_pz c n) (h0 : g (104 + 25 * p) = nI c.length) (h1 : ∀ i, i < c.length → g (104 + 25 * p + 1 + i) = nI (c.getD i 0) ∧ g (104 + 25 * p + 13 + i) = nI (n.getD i 0)) : f_X12_allOf_e (bd 0) (nI p) h = some (nI (mh_dot c n), h) := by
  have hl := hz.1.1.1
  have key := mh_wh (fun m (k : Nat) => f_X12_allOf_b10 m (bd 0) (nI (104 + 25 * p)) (nI (mh_dot (c.take k) (n.take k))) (nI k) h) (fun (_ : Unit) => some (nI (mh_dot c n), h)) (fun k => k ≤ c.length) (fun k => c.length - k) (fun _ => True)
    (fun m k hk => by
      show (∃ s', _ ∧ _ ∧ f_X12_allOf_b10 (m + 1) (bd 0) (nI (104 + 25 * p)) (nI (mh_dot (c.take k) (n.take k))) (nI k) h = _) ∨ ∃ r, _ ∧ f_X12_allOf_b10 (m + 1) (bd 0) (nI (104 + 25 * p)) (nI (mh_dot (c.take k) (n.take k))) (nI k) h = _
      rw [f_X12_allOf_b10, mh_gR_eq (k := 1) ho rfl, Option.bind_some, mh_aI_eq hg (show 104 + 25 * p < 304 by omega) (by omega), Option.bind_some, h0]
      by_cases ck : k < c.length
      · left
        have e1 : nI (104 + 25 * p) + (1 : Int32) + nI k = nI (104 + 25 * p + 1 + k) := by rw [nI_1, nI_add]
        have e13 : nI (104 + 25 * p) + (13 : Int32) + nI k = nI (104 + 25 * p + 13 + k) := by rw [show (13 : Int32) = nI 13 from rfl, nI_add, nI_add]
        refine ⟨k + 1, ck, by omega, ?_⟩
        rw [if_neg (fun q => absurd ((nI_leI (by omega) (by omega)).mp q) (by omega)), Option.bind_some, e1, mh_aI_eq hg (show 104 + 25 * p + 1 + k < 304 by omega) (by omega), Option.bind_some, Option.bind_some, e13, mh_aI_eq hg (show 104 + 25 * p + 13 + k < 304 by omega) (by omega), Option.bind_some, (h1 k ck).1, (h1 k ck).2, mh_nm_eq, mh_nm_eq, mh_inc, mh_nI_mul, nI_add, mh_dot_take ck hz.2.1, Nat.mul_comm (c.getD k 0) (n.getD k 0)]
      · right
        have e : k = c.length := by omega
        subst e
        refine ⟨(), trivial, ?_⟩
        rw [if_pos ((nI_leI (by omega) (by omega)).mpr (by omega)), List.take_length, show n.take c.length = n by rw [← hz.2.1, List.take_length]]
        rfl)
    12 mh_fu 0 (by omega) (Nat.zero_le _) (mh_fuel _ (by omega))
  obtain ⟨_, _, z⟩ := key
  unfold f_X12_allOf_e
  rw [mh_b2_eq mh_r_purseAt, mh_nm_eq, mh_nm_eq]
  exact z
theorem mh_M_fill (hR : mh_RI h bd σ F) (x1 x2 x3 : Int32) : ∃ r v h' σ' F', f_X12_fill_e (bd 0) x1 x2 x3 h = some (v, h') ∧ mh_Sfill σ x1 x2 x3 r σ' ∧ mh_an r v F' ∧ mh_RI h' bd σ' F' ∧ mh_frR bd h h' := by
  obtain ⟨h1, F1, p1, R1, z1, f1⟩ := mh_r_code hR
  unfold f_X12_fill_e
  rw [p1, Option.bind_some]
  rcases mh_r_isMint (h := h1) x1 with ⟨p, a1, a2, a3⟩ | ⟨a1, a3⟩
  · subst a2
    obtain ⟨g, hg, hw⟩ := R1.2 1 (by omega)
    obtain ⟨_, wz, _, _, w5, w6⟩ := hw p a1
    have hI := R1.1
    have ho := R1.ob
    have good : ∀ r σ', ((∃ i k, mh_Pfill (mh_pc σ p) (mh_pn σ p) x2 x3 i k ∧ r = .inr (nI ((mh_pn σ p).getD i 0)) ∧ σ' = mh_setp (mh_bg σ) (mh_nx σ * 8 + p) (mh_pc σ p) ((mh_pn σ p).set i k)) ∨ ((∀ i k, ¬ mh_Pfill (mh_pc σ p) (mh_pn σ p) x2 x3 i k) ∧ r = .inr (-1) ∧ σ' = σ)) → mh_Sfill σ (nI p) x2 x3 r σ' := fun r σ' hr => Or.inl ⟨p, a1, rfl, hr⟩
    obtain ⟨c, ec⟩ : ∃ c, c = mh_pc σ p := ⟨_, rfl⟩
    obtain ⟨n, en⟩ : ∃ n, n = mh_pn σ p := ⟨_, rfl⟩
    rw [← ec, ← en] at wz good
    rw [← ec] at w5
    rw [← ec, ← en] at w6
    have hl := wz.1.1.1
    rw [mh_b2_eq a3, if_neg (by decide), mh_b2_eq mh_r_purseAt, mh_nm_eq]
    have key := mh_wh (fun m (k : Nat) => f_X12_fill_b27 m (bd 0) (nI p) x2 x3 (nI (104 + 25 * p)) (nI k) h1) (fun (r : Option Nat) => match r with | none => f_X12_fill_b136 h1 | some k => f_X12_fill_b94 (bd 0) x3 (nI (104 + 25 * p)) (nI k) h1) (fun k => k ≤ c.length ∧ ∀ i t, i < k → ¬ mh_Pfill c n x2 x3 i t) (fun k => c.length - k) (fun r => match r with | none => ∀ i t, ¬ mh_Pfill c n x2 x3 i t | some k => ∃ t, mh_Pfill c n x2 x3 k t)
      (fun m k hk => by
        obtain ⟨q1, q2⟩ := hk
        show (∃ s', _ ∧ _ ∧ f_X12_fill_b27 (m + 1) (bd 0) (nI p) x2 x3 (nI (104 + 25 * p)) (nI k) h1 = _) ∨ ∃ r, _ ∧ f_X12_fill_b27 (m + 1) (bd 0) (nI p) x2 x3 (nI (104 + 25 * p)) (nI k) h1 = _
        rw [f_X12_fill_b27, mh_gR_eq (k := 1) ho rfl, Option.bind_some, mh_aI_eq hg (show 104 + 25 * p < 304 by omega) (by omega), Option.bind_some, w5]
        by_cases ck : k < c.length
        · have e1 : nI (104 + 25 * p) + (1 : Int32) + nI k = nI (104 + 25 * p + 1 + k) := by rw [nI_1, nI_add]
          have e13 : nI (104 + 25 * p) + (13 : Int32) + nI k = nI (104 + 25 * p + 13 + k) := by rw [show (13 : Int32) = nI 13 from rfl, nI_add, nI_add]
          have no : (∀ t, ¬ mh_Pfill c n x2 x3 k t) → ∃ s', (s' ≤ c.length ∧ ∀ i t, i < s' → ¬ mh_Pfill c n x2 x3 i t) ∧ c.length - s' < c.length - k ∧ f_X12_fill_b130 (f_X12_fill_b27 m) (bd 0) (nI p) x2 x3 (nI (104 + 25 * p)) (nI k) h1 = f_X12_fill_b27 m (bd 0) (nI p) x2 x3 (nI (104 + 25 * p)) (nI s') h1 := fun hn => by
            refine ⟨k + 1, ⟨ck, fun i t hi => ?_⟩, by omega, ?_⟩
            · by_cases e : i = k
              · rw [e]; exact hn t
              · exact q2 i t (by omega)
            · unfold f_X12_fill_b130
              rw [mh_nm_eq, mh_inc]
          rw [if_neg (fun q => absurd ((nI_leI (by omega) (by omega)).mp q) (by omega)), Option.bind_some, e1, mh_aI_eq hg (show 104 + 25 * p + 1 + k < 304 by omega) (by omega), Option.bind_some, (w6 k ck).1]
          by_cases cv : nI (c.getD k 0) = x2
          · rw [if_pos cv]
            rcases mh_sgn x3 with ⟨r1, r2⟩ | ⟨r1, t, r2, r3⟩
            · left
              obtain ⟨s', t1, t2, t3⟩ := no (fun t ht => r2 t (by have := ht.2.1; omega) ht.2.2.2.1)
              exact ⟨s', t1, t2, by rw [if_pos r1]; exact t3⟩
            · rw [if_neg r1]
              by_cases c20 : 20 < t
              · left
                obtain ⟨s', t1, t2, t3⟩ := no (fun t' ht => by
                  have q := ht.2.1
                  have := (nI_eq (by omega) (by omega)).mp (r3.symm.trans ht.2.2.2.1)
                  omega)
                exact ⟨s', t1, t2, by rw [r3, if_pos ((mh_ltl (a := 20) 20 rfl (by omega) (by omega)).mpr c20)]; rw [r3] at t3; exact t3⟩
              · have cb := wz.1.1.get ck
                have nb := wz.2.2.1 k
                have ds := mh_dot_set c n k t ck wz.2.1
                have d2 := wz.2.2.2
                have m1 := Nat.mul_le_mul (show t ≤ 20 by omega) cb.2
                have ev : nI (mh_dot c n) + (nI t - nI (n.getD k 0)) * nI (c.getD k 0) = nI (mh_dot c (n.set k t)) := by
                  rw [mh_i2, mh_nI_mul, mh_nI_mul, nI_add, ← ds, pk_sub (Nat.le_add_left _ _), Nat.add_sub_cancel]
                have al := mh_r_allOf (F := F1) a1 ho hg wz w5 w6
                rw [r3, if_neg (fun q => c20 ((mh_ltl (a := 20) 20 rfl (by omega) (by omega)).mp q)), mh_cal_eq ho, mh_b2_eq al, mh_gR_eq (k := 1) ho rfl, Option.bind_some, e13, mh_aI_eq hg (show 104 + 25 * p + 13 + k < 304 by omega) (by omega), Option.bind_some, (w6 k ck).2, ← cv, ev]
                by_cases c2 : 20000 < mh_dot c (n.set k t)
                · left
                  obtain ⟨s', t1, t2, t3⟩ := no (fun t' ht => by
                    have q := ht.2.1
                    have e := (nI_eq (by omega) (by omega)).mp (r3.symm.trans ht.2.2.2.1)
                    have := ht.2.2.2.2
                    rw [← e] at this
                    omega)
                  rw [r3, ← cv] at t3
                  exact ⟨s', by rw [r3, ← cv] at t1; exact t1, t2, by rw [if_pos ((mh_ltl (a := 20000) 20000 rfl (by omega) (by omega)).mpr c2)]; exact t3⟩
                · right
                  exact ⟨some k, ⟨t, ck, by omega, cv.symm ▸ rfl, by rfl, by omega⟩, by rw [if_neg (fun q => c2 ((mh_ltl (a := 20000) 20000 rfl (by omega) (by omega)).mp q))]⟩
          · left
            obtain ⟨s', t1, t2, t3⟩ := no (fun t ht => cv ht.2.2.1.symm)
            exact ⟨s', t1, t2, by rw [if_neg cv]; exact t3⟩
        · right
          refine ⟨none, fun i t ht => ?_, by rw [if_pos ((nI_leI (by omega) (by omega)).mpr (by omega))]⟩
          exact q2 i t (by have := ht.1; omega) ht)
      12 mh_fu 0 (by omega) ⟨Nat.zero_le _, fun i t hi => absurd hi (Nat.not_lt_zero i)⟩ (mh_fuel _ (by omega))
    obtain ⟨r, v1, v2⟩ := key
    have v2 : f_X12_fill_b27 mh_fu (bd 0) (nI p) x2 x3 (nI (104 + 25 * p)) 0 h1 = _ := v2
    rw [v2]
    cases r with
    | none => exact ⟨.inr (-1), _, h1, σ, F1, rfl, good _ _ (Or.inr ⟨v1, rfl, rfl⟩), Or.inl ⟨rfl, z1⟩, R1, f1⟩
    | some k =>
      obtain ⟨t, hP⟩ := v1
      obtain ⟨P1, P2, P3, P4, P5⟩ := id hP
      have e13 : nI (104 + 25 * p) + (13 : Int32) + nI k = nI (104 + 25 * p + 13 + k) := by rw [show (13 : Int32) = nI 13 from rfl, nI_add, nI_add]
      obtain ⟨H2, eH2⟩ : ∃ H2, H2 = mh_up h1 (bd 1) (.inl (0, 304, .inl (upd g (104 + 25 * p + 13 + k) (nI t)))) := ⟨_, rfl⟩
      have s2 : mh_sI h1 (bd 1) (nI (104 + 25 * p + 13 + k)) (nI t) = some H2 := by rw [eH2]; exact mh_sI_eq hg (by omega) (by omega)
      have gs : ∀ i, (n.set k t).getD i 0 = if i = k then t else n.getD i 0 := fun i => by
        rw [List.getD_eq_getElem?_getD, List.getElem?_set]
        by_cases e : k = i
        · rw [if_pos e, if_pos (by have := wz.2.1; omega), if_pos e.symm]; rfl
        · rw [if_neg e, if_neg (fun q => e q.symm), ← List.getD_eq_getElem?_getD]
      have hz : mh_pz c (n.set k t) := ⟨wz.1, by rw [List.length_set]; exact wz.2.1, fun j => by
        rw [gs]
        by_cases e : j = k
        · rw [if_pos e]; exact P2
        · rw [if_neg e]; exact wz.2.2.1 j, P5⟩
      obtain ⟨h3, F3, u1, R3, u3, f3⟩ := mh_r_purse R1 a1 (C := c) (N := n.set k t) (h2 := H2) (g' := upd g (104 + 25 * p + 13 + k) (nI t)) (by rw [eH2]; exact mh_up_eq _ _ _) (by rw [eH2]; exact mh_fr.up List.mem_cons_self) hz (by rw [pk_un (by omega)]; exact w5) (fun i hi => ⟨by rw [pk_un (by omega)]; exact (w6 i hi).1, by
        rw [gs]
        by_cases e : i = k
        · rw [if_pos e, e, pk_us]
        · rw [if_neg e, pk_un (by omega)]; exact (w6 i hi).2⟩) (fun g0 hg0 j hj hn => by
        rw [hg] at hg0
        cases hg0
        rw [pk_un (by omega)])
      have o2 : H2 (bd 0) = some (.inr (12, mh_rf bd F1)) := by rw [eH2, mh_up_ne (hI.ne (by omega) (by omega) (by omega))]; exact ho
      show ∃ r v h' σ' F', f_X12_fill_b94 (bd 0) x3 (nI (104 + 25 * p)) (nI k) h1 = some (v, h') ∧ _
      unfold f_X12_fill_b94
      rw [mh_gR_eq (k := 1) ho rfl, Option.bind_some, e13, mh_aI_eq hg (show 104 + 25 * p + 13 + k < 304 by omega) (by omega), Option.bind_some, Option.bind_some, P4, s2, Option.bind_some, mh_cal_eq o2, u1, Option.bind_some, (w6 k P1).2]
      rw [← P4]
      exact ⟨.inr (nI (n.getD k 0)), _, h3, _, F3, rfl, good _ _ (Or.inl ⟨k, t, hP, rfl, rfl⟩), Or.inl ⟨rfl, (u3 0 (by omega) (by omega) (by omega)).trans z1⟩, by rw [ec, en] at R3; rw [ec, en]; exact R3, f1.trans f3⟩
  · obtain ⟨h2, F2, y1, R2, z2, f2⟩ := mh_r_fl R1 1 (fun v12 h11 => some (v12, h11))
    have y1 : mh_b2 (mh_cal h1 (bd 0) 12 (f_X12_fail_e (bd 0) (1 : Int32) h1)) _ = _ := y1
    rw [mh_b2_eq a3, if_pos rfl, y1]
    exact ⟨.inl 1, _, h2, σ, F2, rfl, Or.inr ⟨a1, rfl, rfl⟩, Or.inr ⟨1, rfl, z2⟩, R2, f1.trans f2⟩
end MhModelPu
