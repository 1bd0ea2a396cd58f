section MhModelR
variable {h : mh_H} {bd : Nat → Nat} {σ : mh_Sg} {F : Nat → Int32}
theorem mh_M_hand (hR : mh_RI h bd σ F) (x : Int32) : ∃ r v h' F', f_X12_hand_e (bd 0) x h = some (v, h') ∧ mh_Bhand σ.2.2.2 x (fun _ n i => r = .inr (nI (n.getD i 0))) (r = .inl 1) ∧ mh_an r v F' ∧ mh_RI h' bd σ F' ∧ mh_frR bd h h' := by
  obtain ⟨h1, F1, p1, R1, z1, f1⟩ := mh_r_code hR
  unfold f_X12_hand_e
  rw [p1, Option.bind_some]
  have bad : (∀ c n, σ.2.2.2 = some (c, n) → ∀ i, i < c.length → x ≠ nI i) → ∃ r v h' F', f_X12_hand_b24 (bd 0) h1 = some (v, h') ∧ mh_Bhand σ.2.2.2 x (fun _ n i => r = .inr (nI (n.getD i 0))) (r = .inl 1) ∧ mh_an r v F' ∧ mh_RI h' bd σ F' ∧ mh_frR bd h h' := fun hb => by
    obtain ⟨h2, F2, y1, R2, z2, f2⟩ := mh_r_fl R1 1 (fun v12 h11 => some (v12, h11))
    exact ⟨.inl 1, _, h2, F2, y1, Or.inr ⟨hb, rfl⟩, Or.inr ⟨1, rfl, z2⟩, R2, f1.trans f2⟩
  obtain ⟨i1, i2, i3, i4, i5⟩ := R1.ii
  obtain ⟨g1, g2, hd1, hd2, hd3⟩ := R1.2 7 (by omega)
  rw [mh_gI_eq (k := 15) R1.ob rfl, Option.bind_some, i5]
  cases hd : σ.2.2.2 with
  | none =>
    rw [if_pos (by rfl)]
    rw [hd] at bad
    exact bad (fun c n q => by cases q)
  | some cn =>
    obtain ⟨c, n⟩ := cn
    rw [hd] at hd3 bad
    obtain ⟨e16, e2, e3, e4, e5⟩ := hd3
    have hl := e2.1.1
    have ib : ¬ mh_bz (some (c, n)).isSome = 0 := by
      show ¬ (1 : Int32) = 0
      decide
    rw [if_neg ib]
    rcases mh_sgn x with ⟨q1, q2⟩ | ⟨q1, i, q2, q3⟩
    · rw [if_pos q1]
      exact bad (fun c' n' e i hi => by cases e; exact q2 i (by omega))
    · subst q3
      rw [if_neg q1, mh_gI_eq (k := 16) R1.ob rfl, Option.bind_some, e16]
      by_cases ci : i < c.length
      · rw [if_pos ((nI_ltI (by omega) (by omega)).mpr ci), mh_gR_eq (k := 18) R1.ob rfl, Option.bind_some, mh_aI_eq hd2 (show i < 12 by omega) (by omega), Option.bind_some, (e5 i ci).2]
        exact ⟨_, _, h1, F1, rfl, Or.inl ⟨c, n, i, rfl, ci, rfl, rfl⟩, Or.inl ⟨rfl, z1⟩, R1, f1⟩
      · rw [if_neg (fun q => ci ((nI_ltI (by omega) (by omega)).mp q))]
        refine bad (fun c' n' e j hj q => ?_)
        cases e
        have := (nI_eq (by omega) (by omega)).mp q
        omega
theorem mh_M_put (hR : mh_RI h bd σ F) (x1 x2 : Int32) : ∃ r v h' σ' F', f_X12_put_e (bd 0) x1 x2 h = some (v, h') ∧ mh_Sput σ x1 x2 r σ' ∧ mh_an r v F' ∧ mh_RI h' bd σ' F' ∧ mh_frR bd h h' := by
  obtain ⟨h1, F1, p1, R1, z1, f1⟩ := mh_r_code hR
  unfold f_X12_put_e
  rw [p1, Option.bind_some]
  have bad : (∀ c n, σ.2.2.2 = some (c, n) → ∀ i, i < c.length → x1 ≠ nI i) → ∃ r v h' σ' F', f_X12_put_b24 (bd 0) h1 = some (v, h') ∧ mh_Sput σ x1 x2 r σ' ∧ mh_an r v F' ∧ mh_RI h' bd σ' F' ∧ mh_frR bd h h' := fun hb => by
    obtain ⟨h2, F2, y1, R2, z2, f2⟩ := mh_r_fl R1 1 (fun v12 h11 => some (v12, h11))
    exact ⟨.inl 1, _, h2, σ, F2, y1, Or.inr ⟨hb, rfl, rfl⟩, Or.inr ⟨1, rfl, z2⟩, R2, f1.trans f2⟩
  obtain ⟨i1, i2, i3, i4, i5⟩ := R1.ii
  obtain ⟨g1, g2, hd1, hd2, hd3⟩ := R1.2 7 (by omega)
  rw [mh_gI_eq (k := 15) R1.ob rfl, Option.bind_some, i5]
  cases hd : σ.2.2.2 with
  | none =>
    rw [if_pos (by rfl)]
    rw [hd] at bad
    exact bad (fun c n q => by cases q)
  | some cn =>
    obtain ⟨c, n⟩ := cn
    rw [hd] at hd3 bad
    obtain ⟨e16, e2, e3, e4, e5⟩ := hd3
    have hl := e2.1.1
    have ib : ¬ mh_bz (some (c, n)).isSome = 0 := by
      show ¬ (1 : Int32) = 0
      decide
    rw [if_neg ib]
    rcases mh_sgn x1 with ⟨q1, q2⟩ | ⟨q1, i, q2, q3⟩
    · rw [if_pos q1]
      exact bad (fun c' n' e i hi => by cases e; exact q2 i (by omega))
    · subst q3
      rw [if_neg q1, mh_gI_eq (k := 16) R1.ob rfl, Option.bind_some, e16]
      by_cases ci : i < c.length
      · rw [if_pos ((nI_ltI (by omega) (by omega)).mpr ci)]
        have bad2 : (∀ k, k ≤ 3000 → x2 ≠ nI k) → ∃ r v h' σ' F', f_X12_put_b41 (bd 0) h1 = some (v, h') ∧ mh_Sput σ (nI i) x2 r σ' ∧ mh_an r v F' ∧ mh_RI h' bd σ' F' ∧ mh_frR bd h h' := fun hb => by
          obtain ⟨h2, F2, y1, R2, z2, f2⟩ := mh_r_fl R1 2 (fun v12 h11 => some (v12, h11))
          exact ⟨.inl 2, _, h2, σ, F2, y1, Or.inl ⟨c, n, i, hd, ci, rfl, Or.inr ⟨hb, rfl, rfl⟩⟩, Or.inr ⟨2, rfl, z2⟩, R2, f1.trans f2⟩
        rcases mh_sgn x2 with ⟨q4, q5⟩ | ⟨q4, k, q5, q6⟩
        · rw [if_pos q4]
          exact bad2 (fun k hk => q5 k (by omega))
        · subst q6
          rw [if_neg q4]
          by_cases ck : k ≤ 3000
          · have hI := R1.1
            obtain ⟨h2, e2'⟩ : ∃ h2, h2 = mh_up h1 (bd 58) (.inl (0, 12, .inl (upd g2 i (nI k)))) := ⟨_, rfl⟩
            have s2 : mh_sI h1 (bd 58) (nI i) (nI k) = some h2 := by rw [e2']; exact mh_sI_eq hd2 (by omega) (by omega)
            obtain ⟨R2, f2⟩ := R1.mul (h' := h2) (σ' := mh_seth σ (some (c, n.set i k))) (F' := F1) [7] (fun j hj => by rw [List.mem_singleton.mp hj]; omega) (fun b hb => by rw [e2']; exact mh_up_ne (hb 7 (by decide) 58 (by decide) (by decide))) (fun j hj => by
              rw [List.mem_singleton.mp hj]
              refine ⟨g1, upd g2 i (nI k), by rw [e2', mh_up_ne (hI.ne (by omega) (by omega) (by omega))]; exact hd1, by rw [e2']; exact mh_up_eq _ _ _, e16, e2, by rw [List.length_set]; exact e3, fun t => ?_, fun t ht => ⟨(e5 t ht).1, ?_⟩⟩
              · rw [List.getD_eq_getElem?_getD, List.getElem?_set]
                by_cases e : i = t
                · rw [if_pos e]
                  by_cases e2 : i < n.length
                  · rw [if_pos e2]; exact ck
                  · rw [if_neg e2]; exact Nat.zero_le _
                · rw [if_neg e, ← List.getD_eq_getElem?_getD]; exact e4 t
              · rw [List.getD_eq_getElem?_getD, List.getElem?_set]
                by_cases e : i = t
                · rw [if_pos e, if_pos (by omega), e, pk_us]; rfl
                · rw [if_neg e, ← List.getD_eq_getElem?_getD, pk_un (fun q => e q.symm)]
                  exact (e5 t ht).2) (fun j hj hn hc => by
              have j7 : j ≠ 7 := fun q => hn (List.mem_singleton.mpr q)
              obtain rfl | rfl | rfl | rfl | rfl | rfl | rfl | rfl | rfl | rfl : j = 0 ∨ j = 1 ∨ j = 2 ∨ j = 3 ∨ j = 4 ∨ j = 5 ∨ j = 6 ∨ j = 8 ∨ j = 9 ∨ j = 10 := by omega
              · obtain ⟨o1, o2, o3, o4, o5, o6⟩ := hc
                exact ⟨o1, o2, o3, o4, o5, by rw [o6, hd]; rfl⟩
              all_goals exact hc)
            rw [if_pos ((mh_ler (b := 3000) 3000 rfl (by omega) (by omega)).mpr ck), mh_gR_eq (k := 18) R1.ob rfl, Option.bind_some, mh_aI_eq hd2 (show i < 12 by omega) (by omega), Option.bind_some, Option.bind_some, s2, Option.bind_some, (e5 i ci).2]
            exact ⟨.inr (nI (n.getD i 0)), _, h2, _, F1, rfl, Or.inl ⟨c, n, i, hd, ci, rfl, Or.inl ⟨k, ck, rfl, rfl, rfl⟩⟩, Or.inl ⟨rfl, z1⟩, R2, f1.trans f2⟩
          · rw [if_neg (fun q => ck ((mh_ler (b := 3000) 3000 rfl (by omega) (by omega)).mp q))]
            refine bad2 (fun t ht e => ck ?_)
            have := (nI_eq (by omega) (by omega)).mp e
            omega
      · rw [if_neg (fun q => ci ((nI_ltI (by omega) (by omega)).mp q))]
        refine bad (fun c' n' e j hj q => ?_)
        cases e
        have := (nI_eq (by omega) (by omega)).mp q
        omega
theorem mh_r_rank_in (k114 : Nat → Int32 → Int64 → Int32 → mh_H → Option (Int64 × mh_H)) {cs ns : List Nat} {f2 : Nat → Int32} {G : Nat → Nat → Int64} (ho : h (bd 0) = some (.inr (12, mh_rf bd F))) (hf : h (bd 58) = some (.inl (0, 12, .inl f2))) (hO : mh_Oy h (bd 42) (fun j => bd (43 + j))) (hG : mh_Ry h (fun j => bd (43 + j)) G) (hv : ∀ j, j ≤ cs.length → ∀ s, s ≤ 3000 → G j s = lN (mh_wy cs j s)) (hm : mh_ms cs) (hn : ∀ i, ns.getD i 0 ≤ 3000) {j left r : Nat} (hj : j < cs.length) (h3 : left ≤ 3000) (hfj : f2 j = nI (ns.getD j 0)) : f_X12_rank_b136 k114 mh_fu (bd 0) (nI left) (lN r) (nI (j + 1)) (nI (cs.getD j 0)) (nI (left / cs.getD j 0)) h = f_X12_rank_b178 k114 (bd 0) (nI left) (lN (r + mh_rs cs j left (ns.getD j 0) (left / cs.getD j 0))) (nI (j + 1)) (nI (cs.getD j 0)) h := by
  have hl := hm.1.1
  have hcj := hm.1.get hj
  have hdl := Nat.div_mul_le_self left (cs.getD j 0)
  have hd2 := Nat.div_le_self left (cs.getD j 0)
  have hnj := hn j
  have e1 : nI (j + 1) - (1 : Int32) = nI j := pk_sub (b := 1) (by omega)
  have key := mh_wh (fun n (i : Nat) => f_X12_rank_b136 k114 n (bd 0) (nI left) (lN (r + mh_sumr (fun i => mh_wy cs j (left - (left / cs.getD j 0 - i) * cs.getD j 0)) i)) (nI (j + 1)) (nI (cs.getD j 0)) (nI (left / cs.getD j 0 - i)) h)
    (fun (_ : Unit) => f_X12_rank_b178 k114 (bd 0) (nI left) (lN (r + mh_rs cs j left (ns.getD j 0) (left / cs.getD j 0))) (nI (j + 1)) (nI (cs.getD j 0)) h)
    (fun i => i ≤ left / cs.getD j 0 - ns.getD j 0) (fun i => left / cs.getD j 0 - ns.getD j 0 - i) (fun _ => True)
    (fun n i q1 => by
      show (∃ s', _ ∧ _ ∧ f_X12_rank_b136 k114 (n + 1) (bd 0) (nI left) (lN (r + mh_sumr (fun i => mh_wy cs j (left - (left / cs.getD j 0 - i) * cs.getD j 0)) i)) (nI (j + 1)) (nI (cs.getD j 0)) (nI (left / cs.getD j 0 - i)) h = _) ∨ ∃ r', _ ∧ f_X12_rank_b136 k114 (n + 1) (bd 0) (nI left) (lN (r + mh_sumr (fun i => mh_wy cs j (left - (left / cs.getD j 0 - i) * cs.getD j 0)) i)) (nI (j + 1)) (nI (cs.getD j 0)) (nI (left / cs.getD j 0 - i)) h = _
      rw [f_X12_rank_b136, mh_gR_eq (k := 18) ho rfl, Option.bind_some, e1, mh_aI_eq hf (show j < 12 by omega) (by omega), Option.bind_some, hfj]
      by_cases hc : left / cs.getD j 0 - i ≤ ns.getD j 0
      · right
        refine ⟨(), trivial, ?_⟩
        rw [if_pos ((nI_leI (by omega) (by omega)).mpr hc)]
        have e : i = left / cs.getD j 0 - ns.getD j 0 := by omega
        rw [e]
        rfl
      · left
        have hle : (left / cs.getD j 0 - i) * cs.getD j 0 ≤ left := Nat.le_trans (Nat.mul_le_mul_right _ (Nat.sub_le _ _)) hdl
        refine ⟨i + 1, by omega, by omega, ?_⟩
        rw [if_neg (fun q => hc ((nI_leI (by omega) (by omega)).mp q)), mh_gR_eq (k := 12) ho rfl, Option.bind_some, mh_aR_eq hO (show j < 13 by omega) (by omega) rfl, Option.bind_some, mh_nI_mul, pk_sub hle, mh_aJ_eq (hG j (by omega)) (show left - (left / cs.getD j 0 - i) * cs.getD j 0 < 3001 by omega) (by omega), Option.bind_some, mh_nm_eq, mh_nm_eq, hv j (by omega) _ (by omega), lN_add]
        show _ = f_X12_rank_b136 k114 n (bd 0) (nI left) (lN (r + mh_sumr (fun i => mh_wy cs j (left - (left / cs.getD j 0 - i) * cs.getD j 0)) (i + 1))) (nI (j + 1)) (nI (cs.getD j 0)) (nI (left / cs.getD j 0 - (i + 1))) h
        rw [mh_sumr, Nat.add_assoc, show left / cs.getD j 0 - i = (left / cs.getD j 0 - (i + 1)) + 1 by omega, mh_dec])
    3000 mh_fu 0 (by omega) (Nat.zero_le _) (mh_fuel _ (by omega))
  obtain ⟨_, _, z⟩ := key
  exact z
theorem mh_r_rank {cs ns : List Nat} {f1 f2 : Nat → Int32} {G : Nat → Nat → Int64} (ho : h (bd 0) = some (.inr (12, mh_rf bd F))) (hf1 : h (bd 57) = some (.inl (0, 12, .inl f1))) (hf2 : h (bd 58) = some (.inl (0, 12, .inl f2))) (hfv : ∀ i, i < cs.length → f1 i = nI (cs.getD i 0) ∧ f2 i = nI (ns.getD i 0)) (hO : mh_Oy h (bd 42) (fun j => bd (43 + j))) (hG : mh_Ry h (fun j => bd (43 + j)) G) (hv : ∀ j, j ≤ cs.length → ∀ s, s ≤ 3000 → G j s = lN (mh_wy cs j s)) (hm : mh_ms cs) (hln : ns.length = cs.length) (hn : ∀ i, ns.getD i 0 ≤ 3000) : ∀ (j m left r : Nat), j ≤ cs.length → j < m → left = mh_dot (cs.take j) (ns.take j) → left ≤ 3000 → f_X12_rank_b114 m (bd 0) (nI left) (lN r) (nI j) h = some (lN (r + mh_rk cs ns j left), h) := by
  have hl := hm.1.1
  intro j
  induction j with
  | zero =>
    intro m left r _ h2 _ _
    obtain ⟨m, rfl⟩ : ∃ k, m = k + 1 := ⟨m - 1, by omega⟩
    rw [f_X12_rank_b114, if_pos (by decide)]
    rfl
  | succ j ih =>
    intro m left r h1 h2 h3 h4
    obtain ⟨m, rfl⟩ : ∃ k, m = k + 1 := ⟨m - 1, by omega⟩
    have cb := hm.1.get (show j < cs.length by omega)
    have z0 : ¬ nI (cs.getD j 0) = 0 := fun q => absurd ((mh_eqr (b := 0) 0 rfl (by omega) (by omega)).mp q) (by omega)
    have e2 : nI (j + 1) - (1 : Int32) = nI j := pk_sub (b := 1) (by omega)
    have dt := mh_dot_take (show j < cs.length by omega) hln
    have inn := mh_r_rank_in (h := h) (F := F) (f_X12_rank_b114 m) (r := r) ho hf2 hO hG hv hm hn (show j < cs.length by omega) h4 (hfv j (by omega)).2
    rw [f_X12_rank_b114, if_neg (nI_nle (by omega) (by omega)), mh_gR_eq (k := 17) ho rfl, Option.bind_some, e2, mh_aI_eq hf1 (show j < 12 by omega) (by omega), Option.bind_some, (hfv j (by omega)).1, mh_nz_eq z0, mh_nm_eq, pk_div (by omega) (by omega) (by omega), inn]
    unfold f_X12_rank_b178
    rw [mh_gR_eq (k := 18) ho rfl, Option.bind_some, e2, mh_aI_eq hf2 (show j < 12 by omega) (by omega), Option.bind_some, (hfv j (by omega)).2, mh_nI_mul, pk_sub (by omega), mh_nm_eq, mh_nm_eq, mh_dec, ih m _ _ (by omega) (by omega) (by omega) (by omega)]
    rw [Nat.add_assoc]
    rfl
theorem mh_M_rank (hR : mh_RI h bd σ F) : ∃ r v h' F', f_X12_rank_e (bd 0) h = some (v, h') ∧ mh_Srank σ.2.2.2 r ∧ mh_an r v F' ∧ mh_RI h' bd σ F' ∧ mh_frR bd h h' := by
  obtain ⟨h1, F1, p1, R1, z1, f1⟩ := mh_r_code hR
  unfold f_X12_rank_e
  rw [p1, Option.bind_some]
  obtain ⟨i1, i2, i3, i4, i5⟩ := R1.ii
  obtain ⟨g1, g2, hd1, hd2, hd3⟩ := R1.2 7 (by omega)
  rw [mh_gI_eq (k := 15) R1.ob rfl, Option.bind_some, i5]
  cases hd : σ.2.2.2 with
  | none =>
    obtain ⟨h2, F2, y1, R2, z2, f2⟩ := mh_r_fl R1 1 (fun v12 h11 => some ((v12).toInt64, h11))
    have y1 : mh_b2 (mh_cal h1 (bd 0) 12 (f_X12_fail_e (bd 0) (1 : Int32) h1)) _ = _ := y1
    rw [if_pos (by rfl), y1]
    exact ⟨.inl 1, _, h2, F2, rfl, Or.inl ⟨rfl, rfl⟩, Or.inr ⟨1, rfl, z2⟩, R2, f1.trans f2⟩
  | some cn =>
    obtain ⟨c, n⟩ := cn
    rw [hd] at hd3
    obtain ⟨e16, e2, e3, e4, e5⟩ := hd3
    have hl := e2.1.1
    have ib : ¬ mh_bz (some (c, n)).isSome = 0 := by
      show ¬ (1 : Int32) = 0
      decide
    rw [if_neg ib, mh_nm_eq, mh_nm_eq]
    have key := mh_wh (fun m (k : Nat) => f_X12_rank_b23 m (bd 0) (lN (mh_dot (c.take k) (n.take k))) (nI k) h1) (fun (_ : Unit) => f_X12_rank_b55 (bd 0) (lN (mh_dot c n)) h1) (fun k => k ≤ c.length) (fun k => c.length - k) (fun _ => True)
      (fun m k hk => by
        show (∃ s', _ ∧ _ ∧ f_X12_rank_b23 (m + 1) (bd 0) (lN (mh_dot (c.take k) (n.take k))) (nI k) h1 = _) ∨ ∃ r', _ ∧ f_X12_rank_b23 (m + 1) (bd 0) (lN (mh_dot (c.take k) (n.take k))) (nI k) h1 = _
        rw [f_X12_rank_b23, mh_gI_eq (k := 16) R1.ob rfl, Option.bind_some, e16]
        by_cases ck : k < c.length
        · left
          have cb := e2.1.get ck
          have nb := e4 k
          refine ⟨k + 1, ck, by omega, ?_⟩
          rw [if_neg (fun q => absurd ((nI_leI (by omega) (by omega)).mp q) (by omega)), mh_gR_eq (k := 18) R1.ob rfl, Option.bind_some, mh_aI_eq hd2 (show k < 12 by omega) (by omega), Option.bind_some, mh_gR_eq (k := 17) R1.ob rfl, Option.bind_some, mh_aI_eq hd1 (show k < 12 by omega) (by omega), Option.bind_some, (e5 k ck).1, (e5 k ck).2, mh_nm_eq, mh_nm_eq, mh_inc, nI_l (by omega), nI_l (by omega), lN_mul, lN_add, mh_dot_take ck e3]
        · right
          have e : k = c.length := by omega
          subst e
          refine ⟨(), trivial, ?_⟩
          rw [if_pos ((nI_leI (by omega) (by omega)).mpr (by omega)), List.take_length, show n.take c.length = n by rw [← e3, List.take_length]])
      12 mh_fu 0 (by omega) (Nat.zero_le _) (mh_fuel _ (by omega))
    obtain ⟨_, _, key⟩ := key
    have key : f_X12_rank_b23 mh_fu (bd 0) 0 0 h1 = f_X12_rank_b55 (bd 0) (lN (mh_dot c n)) h1 := key
    rw [key]
    have db := mh_dot_b c n (fun x hx => (e2.1.2 x hx).2) e4
    have good : ∀ r, ((mh_dot c n ≤ 3000 ∧ mh_wy c c.length (mh_dot c n) ≤ 4000000000000000000 ∧ r = .inr (lN (mh_rk c n c.length (mh_dot c n)))) ∨ (¬ (mh_dot c n ≤ 3000 ∧ mh_wy c c.length (mh_dot c n) ≤ 4000000000000000000) ∧ r = .inr (-1))) → mh_Srank (some (c, n)) r := fun r hr => Or.inr ⟨c, n, rfl, hr⟩
    unfold f_X12_rank_b55
    by_cases c1 : mh_dot c n < 3001
    · have hI := R1.1
      obtain ⟨h2, y1, R2, W2, f2, k2⟩ := mh_r_count R1 e2 (a := bd 57) (fr := 0) hd1 (by omega) (by omega) (fun i hi => by rw [Nat.zero_add]; exact (e5 i hi).1) (fun y y1 y2 => hI.ne (by omega) (by omega) (by omega))
      have y1 : f_X12_count_e (bd 0) (bd 57) (0 : Int32) (nI c.length) h1 = some h2 := y1
      obtain ⟨G, v1, v2, v3⟩ := W2
      have hcap : mh_CAP = 4000000000000000001 := rfl
      have wl := mh_wy_le c c.length (mh_dot c n)
      have k57 := (k2 (bd 57) (fun y y1 y2 => hI.ne (by omega) (by omega) (by omega))).trans hd1
      have k58 := (k2 (bd 58) (fun y y1 y2 => hI.ne (by omega) (by omega) (by omega))).trans hd2
      rw [if_pos (show lg_cmp (lN (mh_dot c n)) (3001 : Int64) < 0 from (mh_cltN (b := 3001) (by omega) (by omega)).mpr c1), mh_gR_eq (k := 17) R1.ob rfl, Option.bind_some, mh_gI_eq (k := 16) R1.ob rfl, Option.bind_some, e16, mh_cal_eq R1.ob, y1, Option.bind_some, mh_nm_eq, lN_i, mh_gR_eq (k := 12) R2.ob rfl, Option.bind_some, mh_gI_eq (k := 16) R2.ob rfl, Option.bind_some, e16, mh_aR_eq v1 (show c.length < 13 by omega) (by omega) rfl, Option.bind_some, mh_aJ_eq (v2 _ (by omega)) (show mh_dot c n < 3001 by omega) (by omega), Option.bind_some, v3 _ (Nat.le_refl _) _ (by omega)]
      by_cases c2 : mh_wy c c.length (mh_dot c n) ≤ 4000000000000000000
      · have fin := mh_r_rank (h := h2) R2.ob k57 k58 e5 v1 v2 v3 e2 e3 e4 c.length mh_fu (mh_dot c n) 0 (Nat.le_refl _) (mh_fuel _ (by omega)) (by rw [List.take_length, show n.take c.length = n by rw [← e3, List.take_length]]) (by omega)
        have fin : f_X12_rank_b114 mh_fu (bd 0) (nI (mh_dot c n)) (0 : Int64) (nI c.length) h2 = some (lN (0 + mh_rk c n c.length (mh_dot c n)), h2) := fin
        rw [if_pos (show lg_cmp (lN (mh_wy c c.length (mh_dot c n))) (4000000000000000000 : Int64) ≤ 0 from (mh_cleN (b := 4000000000000000000) (by omega) (by omega)).mpr c2), mh_nm_eq, Option.bind_some, fin, Nat.zero_add]
        exact ⟨_, _, h2, F1, rfl, good _ (Or.inl ⟨by omega, c2, rfl⟩), Or.inl ⟨rfl, z1⟩, R2, f1.trans f2⟩
      · rw [if_neg (fun q : lg_cmp (lN (mh_wy c c.length (mh_dot c n))) (4000000000000000000 : Int64) ≤ 0 => c2 ((mh_cleN (b := 4000000000000000000) (by omega) (by omega)).mp q))]
        exact ⟨_, _, h2, F1, rfl, good _ (Or.inr ⟨fun q => c2 q.2, rfl⟩), Or.inl ⟨rfl, z1⟩, R2, f1.trans f2⟩
    · rw [if_neg (fun q : lg_cmp (lN (mh_dot c n)) (3001 : Int64) < 0 => c1 ((mh_cltN (b := 3001) (by omega) (by omega)).mp q))]
      exact ⟨_, _, h1, F1, rfl, good _ (Or.inr ⟨fun q => c1 (by omega), rfl⟩), Or.inl ⟨rfl, z1⟩, R1, f1⟩
end MhModelR
