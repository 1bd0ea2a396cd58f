section MhModelD
variable {h : mh_H} {bd : Nat → Nat} {σ : mh_Sg} {F : Nat → Int32}
theorem mh_r_shift {g : Nat → Int32} {a k n : Nat} {x2 x4 : Int32} (hI : mh_Inj bd 99) (ho : h (bd 0) = some (.inr (12, mh_rf bd F))) (hg : h (bd 1) = some (.inl (0, 304, .inl g))) (hk : k ≤ n) (ha : a + n + 1 < 304) : ∃ h' g', f_X12_coin_b105 mh_fu (bd 0) x2 (nI a) x4 (nI k) (nI n) h = f_X12_coin_b138 (bd 0) x2 (nI a) x4 (nI k) h' ∧ h' (bd 1) = some (.inl (0, 304, .inl g')) ∧ mh_fr [bd 1] h h' ∧ (∀ j, j ≤ a + k ∨ a + n + 1 < j → g' j = g j) ∧ ∀ j, k < j → j ≤ n → g' (a + 1 + j) = g (a + j) := by
  have key := mh_wh (fun m (s : Nat × mh_H) => f_X12_coin_b105 m (bd 0) x2 (nI a) x4 (nI k) (nI s.1) s.2) (fun (r : mh_H) => f_X12_coin_b138 (bd 0) x2 (nI a) x4 (nI k) r) (fun s => k ≤ s.1 ∧ s.1 ≤ n ∧ mh_fr [bd 1] h s.2 ∧ ∃ g', s.2 (bd 1) = some (.inl (0, 304, .inl g')) ∧ (∀ j, j ≤ a + s.1 ∨ a + n + 1 < j → g' j = g j) ∧ ∀ j, s.1 < j → j ≤ n → g' (a + 1 + j) = g (a + j)) (fun s => s.1) (fun r => mh_fr [bd 1] h r ∧ ∃ g', r (bd 1) = some (.inl (0, 304, .inl g')) ∧ (∀ j, j ≤ a + k ∨ a + n + 1 < j → g' j = g j) ∧ ∀ j, k < j → j ≤ n → g' (a + 1 + j) = g (a + j))
    (fun m s hs => by
      obtain ⟨i, hh⟩ := s
      obtain ⟨q1, q2, q3, g', q4, q5, q6⟩ := hs
      have q1 : k ≤ i := q1
      have q2 : i ≤ n := q2
      have q3 : mh_fr [bd 1] h hh := q3
      have q4 : hh (bd 1) = some (.inl (0, 304, .inl g')) := q4
      have q5 : ∀ j, j ≤ a + i ∨ a + n + 1 < j → g' j = g j := q5
      have q6 : ∀ j, i < j → j ≤ n → g' (a + 1 + j) = g (a + j) := q6
      show (∃ s', _ ∧ _ ∧ f_X12_coin_b105 (m + 1) (bd 0) x2 (nI a) x4 (nI k) (nI i) hh = _) ∨ ∃ r, _ ∧ f_X12_coin_b105 (m + 1) (bd 0) x2 (nI a) x4 (nI k) (nI i) hh = _
      have ho' : hh (bd 0) = some (.inr (12, mh_rf bd F)) := (q3 _ (by simp [hI.ne (show 0 < 99 by omega) (show 1 < 99 by omega) (by omega)])).trans ho
      by_cases hlt : k < i
      · left
        have e1 : nI a + nI i = nI (a + i) := nI_add _ _
        refine ⟨(i - 1, mh_up hh (bd 1) (.inl (0, 304, .inl (upd g' (a + i + 1) (g' (a + i)))))), ⟨by show k ≤ i - 1; omega, by show i - 1 ≤ n; omega, q3.trans (mh_fr.up List.mem_cons_self), _, mh_up_eq _ _ _, fun j hj => ?_, fun j h1 h2 => ?_⟩, by show i - 1 < i; omega, ?_⟩
        · have hj : j ≤ a + (i - 1) ∨ a + n + 1 < j := hj
          rw [pk_un (by omega)]
          exact q5 j (by omega)
        · have h1 : i - 1 < j := h1
          by_cases e : j = i
          · rw [e, show a + 1 + i = a + i + 1 by omega, pk_us]
            exact q5 _ (by omega)
          · rw [pk_un (by omega)]
            exact q6 j (by omega) h2
        · obtain ⟨i', ei⟩ : ∃ i', i = i' + 1 := ⟨i - 1, by omega⟩
          rw [f_X12_coin_b105, if_neg (fun q => absurd ((nI_leI (by omega) (by omega)).mp q) (by omega)), mh_gR_eq (k := 1) ho' rfl, Option.bind_some, Option.bind_some, e1, mh_aI_eq q4 (show a + i < 304 by omega) (by omega), Option.bind_some, nI_1, mh_sI_eq q4 (show a + i + 1 < 304 by omega) (by omega), Option.bind_some, mh_nm_eq]
          show f_X12_coin_b105 m (bd 0) x2 (nI a) x4 (nI k) (nI i + Int32.ofInt (-1)) _ = f_X12_coin_b105 m (bd 0) x2 (nI a) x4 (nI k) (nI (i - 1)) _
          rw [ei, mh_dec, Nat.add_sub_cancel]
      · right
        have e : i = k := by omega
        subst e
        exact ⟨hh, ⟨q3, g', q4, q5, q6⟩, by rw [f_X12_coin_b105, if_pos (Int32.le_refl _)]⟩)
    n mh_fu (n, h) (Nat.le_refl _) ⟨hk, Nat.le_refl _, mh_fr.rfl, g, hg, fun _ _ => rfl, fun j h1 h2 => absurd h1 (by show ¬ n < j; omega)⟩ (mh_fuel _ (by omega))
  obtain ⟨r, ⟨z1, g', z2, z3, z4⟩, z5⟩ := key
  exact ⟨r, g', z5, z2, z1, z3, z4⟩
theorem mh_M_coin (hR : mh_RI h bd σ F) (x1 x2 : Int32) : ∃ r h' σ' F', f_X12_coin_e (bd 0) x1 x2 h = some (r, h') ∧ mh_Scoin σ x1 x2 r σ' ∧ F' 0 = 0 ∧ mh_RI h' bd σ' F' ∧ mh_frR bd h h' := by
  obtain ⟨h1, F1, p1, R1, z1, f1⟩ := mh_r_code hR
  unfold f_X12_coin_e
  rw [p1, Option.bind_some]
  have bad : (∀ p v, ¬ mh_okC σ x1 x2 p v) → ∃ r h' σ' F', f_X12_coin_b38 h1 = some (r, h') ∧ mh_Scoin σ x1 x2 r σ' ∧ F' 0 = 0 ∧ mh_RI h' bd σ' F' ∧ mh_frR bd h h' := fun hb => ⟨_, h1, σ, F1, rfl, Or.inr ⟨hb, rfl, rfl⟩, z1, R1, f1⟩
  rcases mh_r_isMint (h := h1) x1 with ⟨p, a1, a2, a3⟩ | ⟨a1, a3⟩
  · subst a2
    rw [mh_b2_eq a3, if_neg (by decide)]
    rcases mh_range (x := x2) (lo := 1) (hi := 300) (a := 1) (b := 300) rfl rfl (by omega) (by omega) with ⟨r1, r2⟩ | ⟨r1, r2, r3⟩ | ⟨r1, r2, v, v1, v2, v3⟩
    · rw [if_pos r1]
      exact bad (fun q w ho => r2 w ho.2.2.1 ho.2.2.2.1 ho.2.2.2.2.1)
    · rw [if_neg r1, if_pos (Int32.not_le.mp r2)]
      exact bad (fun q w ho => r3 w ho.2.2.1 ho.2.2.2.1 ho.2.2.2.2.1)
    · subst v3
      obtain ⟨g, hg, hw⟩ := R1.2 1 (by omega)
      obtain ⟨w1, w2, w3, w4, _⟩ := hw p a1
      have hl := w1.1.1
      have okq : ∀ {q w}, mh_okC σ (nI p) (nI v) q w → q = p ∧ w = v := fun ho => ⟨((nI_eq (by omega) (by have := ho.1; omega)).mp ho.2.1).symm, ((nI_eq (by omega) (by have := ho.2.2.2.1; omega)).mp ho.2.2.2.2.1).symm⟩
      rw [if_neg r1, if_neg (Int32.not_lt.mpr r2), mh_gR_eq (k := 1) R1.ob rfl, Option.bind_some, mh_b2_eq mh_r_mintAt, mh_aI_eq hg (show 13 * p < 304 by omega) (by omega), Option.bind_some, w3]
      by_cases c3 : (mh_mi σ p).length = 12
      · rw [if_pos ((mh_eqr (b := 12) 12 rfl (by omega) (by omega)).mpr c3)]
        exact bad (fun q w ho => by
          obtain ⟨e1, e2⟩ := okq ho
          have := ho.2.2.2.2.2.1
          rw [e1] at this
          have this : (mh_mi σ p).length < 12 := this
          omega)
      · rw [if_neg (fun q => c3 ((mh_eqr (b := 12) 12 rfl (by omega) (by omega)).mp q)), mh_b2_eq mh_r_mintAt, mh_gR_eq (k := 1) R1.ob rfl, Option.bind_some, mh_aI_eq hg (show 13 * p < 304 by omega) (by omega), Option.bind_some, w3]
        -- where it stands
        have key := mh_wh (fun m (k : Nat) => f_X12_coin_b57 m (bd 0) (nI v) (nI (13 * p)) (nI (mh_mi σ p).length) (nI k) h1) (fun (k : Nat) => f_X12_coin_b81 (bd 0) (nI v) (nI (13 * p)) (nI (mh_mi σ p).length) (nI k) h1) (fun k => k ≤ (mh_mi σ p).length ∧ ∀ j, k ≤ j → j < (mh_mi σ p).length → v < (mh_mi σ p).getD j 0) (fun k => k) (fun k => k ≤ (mh_mi σ p).length ∧ (∀ j, k ≤ j → j < (mh_mi σ p).length → v < (mh_mi σ p).getD j 0) ∧ (k = 0 ∨ (mh_mi σ p).getD (k - 1) 0 ≤ v))
          (fun m k hk => by
            obtain ⟨q1, q2⟩ := hk
            have q1 : k ≤ (mh_mi σ p).length := q1
            show (∃ s', _ ∧ _ ∧ f_X12_coin_b57 (m + 1) (bd 0) (nI v) (nI (13 * p)) (nI (mh_mi σ p).length) (nI k) h1 = _) ∨ ∃ r, _ ∧ f_X12_coin_b57 (m + 1) (bd 0) (nI v) (nI (13 * p)) (nI (mh_mi σ p).length) (nI k) h1 = _
            by_cases k0 : k = 0
            · right
              exact ⟨k, ⟨q1, q2, Or.inl k0⟩, by rw [f_X12_coin_b57, if_pos ((mh_ler (b := 0) 0 rfl (by omega) (by omega)).mpr (by omega))]⟩
            · obtain ⟨k', ek⟩ : ∃ k', k = k' + 1 := ⟨k - 1, by omega⟩
              subst ek
              have hle := w1.1.le k'
              have e1 : nI (13 * p) + nI (k' + 1) = nI (13 * p + 1 + k') := by rw [nI_add]; congr 1; omega
              rw [f_X12_coin_b57, if_neg (fun q => absurd ((mh_ler (b := 0) 0 rfl (by omega) (by omega)).mp q) (by omega)), mh_gR_eq (k := 1) R1.ob rfl, Option.bind_some, e1, mh_aI_eq hg (show 13 * p + 1 + k' < 304 by omega) (by omega), Option.bind_some, w4 k' (by omega)]
              by_cases c : (mh_mi σ p).getD k' 0 ≤ v
              · right
                exact ⟨k' + 1, ⟨q1, q2, Or.inr c⟩, by rw [if_pos ((nI_leI (by omega) (by omega)).mpr c)]⟩
              · left
                refine ⟨k', ⟨by omega, fun j h1 h2 => ?_⟩, by omega, by rw [if_neg (fun q => c ((nI_leI (by omega) (by omega)).mp q)), mh_nm_eq, mh_dec]⟩
                by_cases e : j = k'
                · rw [e]; omega
                · exact q2 j (by omega) h2)
          (mh_mi σ p).length mh_fu (mh_mi σ p).length (Nat.le_refl _) ⟨Nat.le_refl _, fun j h1 h2 => absurd h1 (by omega)⟩ (mh_fuel _ (by omega))
        obtain ⟨k, ⟨k1, k2, k3⟩, k4⟩ := key
        rw [k4]
        have done : (∀ j, j < k → (mh_mi σ p).getD j 0 < v) → ∃ r h' σ' F', f_X12_coin_b101 (bd 0) (nI v) (nI (13 * p)) (nI (mh_mi σ p).length) (nI k) h1 = some (r, h') ∧ mh_Scoin σ (nI p) (nI v) r σ' ∧ F' 0 = 0 ∧ mh_RI h' bd σ' F' ∧ mh_frR bd h h' := fun hb => by
          have hpf : mh_pf (mh_mi σ p) (nI v) = k := mh_pf_is (by omega) (fun c hc => by have := (w1.1.2 c hc).2; omega) k1 hb (fun hlt => Nat.le_of_lt (k2 k (Nat.le_refl _) hlt))
          have hnm : v ∉ mh_mi σ p := fun q => by
            obtain ⟨j, j1, j2⟩ := mh_mem_get q
            by_cases c : j < k
            · have := hb j c; omega
            · have := k2 j (by omega) j1; omega
          obtain ⟨h2, g2, y1, y2, y3, y4, y5⟩ := mh_r_shift (x2 := nI v) (x4 := nI (mh_mi σ p).length) (a := 13 * p) (k := k) (n := (mh_mi σ p).length) R1.1 R1.ob hg k1 (by omega)
          have o2 : h2 (bd 0) = some (.inr (12, mh_rf bd F1)) := (y3 _ (by simp [R1.1.ne (show 0 < 99 by omega) (show 1 < 99 by omega) (by omega)])).trans R1.ob
          have e1 : nI (13 * p) + nI k + (1 : Int32) = nI (13 * p + 1 + k) := by rw [nI_add, nI_1]; congr 1; omega
          obtain ⟨g3, eg3⟩ : ∃ g3, g3 = upd g2 (13 * p + 1 + k) (nI v) := ⟨_, rfl⟩
          obtain ⟨h3, eh3⟩ : ∃ h3, h3 = mh_up h2 (bd 1) (.inl (0, 304, .inl g3)) := ⟨_, rfl⟩
          have s3 : mh_sI h2 (bd 1) (nI (13 * p + 1 + k)) (nI v) = some h3 := by rw [mh_sI_eq y2 (by omega) (by omega), eh3, eg3]
          have g3' : h3 (bd 1) = some (.inl (0, 304, .inl g3)) := by rw [eh3]; exact mh_up_eq _ _ _
          have o3 : h3 (bd 0) = some (.inr (12, mh_rf bd F1)) := by rw [eh3, mh_up_ne (R1.1.ne (by omega) (by omega) (by omega))]; exact o2
          have v0 : g3 (13 * p) = nI (mh_mi σ p).length := by rw [eg3, pk_un (by omega), y4 _ (by omega)]; exact w3
          obtain ⟨g4, eg4⟩ : ∃ g4, g4 = upd g3 (13 * p) (nI ((mh_mi σ p).length + 1)) := ⟨_, rfl⟩
          obtain ⟨h4, eh4⟩ : ∃ h4, h4 = mh_up h3 (bd 1) (.inl (0, 304, .inl g4)) := ⟨_, rfl⟩
          have s4 : mh_sI h3 (bd 1) (nI (13 * p)) (nI ((mh_mi σ p).length + 1)) = some h4 := by rw [mh_sI_eq g3' (by omega) (by omega), eh4, eg4]
          have g4' : h4 (bd 1) = some (.inl (0, 304, .inl g4)) := by rw [eh4]; exact mh_up_eq _ _ _
          have o4 : h4 (bd 0) = some (.inr (12, mh_rf bd F1)) := by rw [eh4, mh_up_ne (R1.1.ne (by omega) (by omega) (by omega))]; exact o3
          have fr4 : mh_fr [bd 1] h1 h4 := by
            rw [eh4, eh3]
            exact y3.trans ((mh_fr.up List.mem_cons_self).trans (mh_fr.up List.mem_cons_self))
          have hil := mh_ins_len (mh_mi σ p) v
          obtain ⟨h5, F5, u1, u2, u3, u4⟩ := mh_r_mint R1 a1 (M := mh_ins (mh_mi σ p) v) g4' fr4 (mh_ins_ms w1 v1 v2 (by omega) hnm) (by rw [eg4, pk_us, hil]) (fun i hi => by
            rw [hil] at hi
            rw [eg4, pk_un (by omega), eg3, mh_ins_get, hpf]
            by_cases c1 : i < k
            · rw [if_pos c1, pk_un (by omega), y4 _ (by omega)]
              exact w4 i (by omega)
            · by_cases c2 : i = k
              · rw [if_neg c1, if_pos c2, c2, pk_us]
              · rw [if_neg c1, if_neg c2, pk_un (by omega), y5 i (by omega) (by omega), ← w4 (i - 1) (by omega)]
                congr 1
                omega) (fun g0 hg0 j hj hn => by
            rw [hg] at hg0
            cases hg0
            rw [eg4, pk_un (by omega), eg3, pk_un (by omega)]
            exact y4 j (by omega))
          unfold f_X12_coin_b101
          rw [y1]
          unfold f_X12_coin_b138
          rw [mh_gR_eq (k := 1) o2 rfl, Option.bind_some, e1, s3, Option.bind_some, mh_gR_eq (k := 1) o3 rfl, Option.bind_some, mh_aI_eq g3' (show 13 * p < 304 by omega) (by omega), Option.bind_some, v0, nI_1, s4, Option.bind_some, mh_cal_eq o4, u1, Option.bind_some]
          exact ⟨_, h5, _, F5, rfl, Or.inl ⟨p, v, ⟨a1, rfl, v1, v2, rfl, show (mh_mi σ p).length < 12 by omega, hnm⟩, rfl, rfl⟩, (u3 0 (by omega) (by omega) (by omega)).trans z1, u2, f1.trans u4⟩
        unfold f_X12_coin_b81
        by_cases k0 : k = 0
        · rw [if_pos ((mh_ler (b := 0) 0 rfl (by omega) (by omega)).mpr (by omega))]
          exact done (fun j hj => absurd hj (by omega))
        · obtain ⟨k', ek⟩ : ∃ k', k = k' + 1 := ⟨k - 1, by omega⟩
          have hle := w1.1.le k'
          have e1 : nI (13 * p) + nI k = nI (13 * p + 1 + k') := by rw [nI_add, ek]; congr 1; omega
          rw [if_neg (fun q => absurd ((mh_ler (b := 0) 0 rfl (by omega) (by omega)).mp q) (by omega)), mh_gR_eq (k := 1) R1.ob rfl, Option.bind_some, e1, mh_aI_eq hg (show 13 * p + 1 + k' < 304 by omega) (by omega), Option.bind_some, w4 k' (by omega)]
          have k3' : (mh_mi σ p).getD k' 0 ≤ v := by
            rcases k3 with q | q
            · exact absurd q k0
            · rw [ek, Nat.add_sub_cancel] at q; exact q
          by_cases c : (mh_mi σ p).getD k' 0 = v
          · rw [if_pos (by rw [c])]
            exact bad (fun q w ho => by
              obtain ⟨e1, e2⟩ := okq ho
              have := ho.2.2.2.2.2.2
              rw [e1, e2] at this
              exact this (by rw [← c]; exact mh_get_mem (show k' < (mh_mi σ p).length by omega)))
          · rw [if_neg (fun q => c ((nI_eq (by omega) (by omega)).mp q))]
            exact done (fun j hj => by
              by_cases e : j = k'
              · rw [e]; omega
              · have := mh_pw_ne w1.2 (show j < k' by omega) (by omega); omega)
  · rw [mh_b2_eq a3, if_pos rfl]
    exact bad (fun q w ho => a1 q ho.1 ho.2.1)
end MhModelD
