def mh_Fw (h : mh_H) (o a u t k v : Nat) (cs : List Nat) (w : Nat → Nat) : Prop :=
  mh_Fe h o a u t k v cs ∧ mh_gI h o 2 4 = some 1 ∧ cs ≠ [] ∧ ∃ fv, mh_Cl h k v (mh_tp cs) fv w ∧ mh_Ex (mh_tp cs) cs.dropLast (mh_wf (mh_tp cs)) w
theorem mh_Fe.ms {h : mh_H} {o a u t k v : Nat} {cs : List Nat} (hF : mh_Fe h o a u t k v cs) : mh_ms cs := by obtain ⟨_, _, _, _, _, _, _, _, _, _, _, r, _⟩ := hF; exact r
theorem mh_Fe.co {h : mh_H} {o a u t k v : Nat} {cs : List Nat} (hF : mh_Fe h o a u t k v cs) : ∃ fc, mh_Co h a u fc cs := by obtain ⟨fc, _, _, _, _, _, _, r, _⟩ := hF; exact ⟨fc, r⟩
theorem mh_Fe.ob {h : mh_H} {o a u t k v : Nat} {cs : List Nat} (hF : mh_Fe h o a u t k v cs) : ∃ y tn, h o = some (.inr (2, [.ref a, .ref t, .ref k, .int y, .int tn])) := by obtain ⟨_, _, _, _, _, _, r, _⟩ := hF; exact ⟨_, _, r⟩
theorem mh_Fe.ap {h : mh_H} {o a u t k v : Nat} {cs : List Nat} (hF : mh_Fe h o a u t k v cs) : (k ≠ o ∧ k ≠ t ∧ v ≠ o ∧ v ≠ t) ∧ (a ≠ o ∧ u ≠ o ∧ a ≠ t ∧ u ≠ t) ∧ a ≠ k ∧ u ≠ k ∧ a ≠ v ∧ u ≠ v ∧ t ≠ k ∧ t ≠ v ∧ t ≠ o := by
  obtain ⟨fc, ft, fv, x, tn, kn, r1, r2, r3, r4, r5, _⟩ := hF
  exact ⟨⟨mh_apt r4 r1 (fun q => by cases q), mh_apt r4 r3 (fun q => by cases q), mh_apt r5 r1 (fun q => by cases q), mh_apt r5 r3 (fun q => by cases q)⟩, ⟨mh_apt r2.1 r1 (fun q => by cases q), mh_apt r2.2.1 r1 (fun q => by cases q), mh_apt r2.1 r3 (fun q => by cases q), mh_apt r2.2.1 r3 (fun q => by cases q)⟩, mh_apt r2.1 r4 (fun q => by cases q), mh_apt r2.2.1 r4 (fun q => by cases q), mh_apt r2.1 r5 (fun q => by cases q), mh_apt r2.2.1 r5 (fun q => by cases q), mh_apt r3 r4 (fun q => by cases q), mh_apt r3 r5 (fun q => by cases q), mh_apt r3 r1 (fun q => by cases q)⟩
section MhTurn
variable {h : mh_H} {o a u t k v : Nat} {cs : List Nat}
theorem mh_fx2_weightOf {fc : Nat → Int32} {y tn : Int32} (ho : h o = some (.inr (2, [.ref a, .ref t, .ref k, .int y, .int tn]))) (hc : mh_Co h a u fc cs) (hms : mh_ms cs) {i : Nat} (hi : i < cs.length) : f_X2_weightOf_e o (nI i) h = some (nI (mh_wf (mh_tp cs) (cs.getD i 0)), h) := by
  have hl := hms.1.1
  have hne : cs ≠ [] := List.length_pos_iff.mp (by omega)
  obtain ⟨g1, g2, g3, g4⟩ := mh_tp_ok hms hne
  have hle := (g1.2 _ (mh_get_mem hi)).2
  have g0 : mh_gR h o 2 0 = some a := mh_gR_eq ho rfl
  unfold f_X2_weightOf_e
  rw [g0, Option.bind_some, mh_cal_eq hc.1, mh_b2_eq (mh_fx1_greatest hc), g0, Option.bind_some, mh_cal_eq hc.1, mh_b2_eq (mh_fx1_value hc (by omega))]
  have e : nI (cs.getD (cs.length - 1) 0) - nI (cs.getD i 0) = nI (mh_tp cs - cs.getD i 0) := pk_sub hle
  have e2 : nI (mh_tp cs - cs.getD i 0) * (1000 : Int32) = nI ((mh_tp cs - cs.getD i 0) * 1000) := mh_nI_mul _ 1000
  rw [e, e2, nI_1]
  rfl
theorem mh_fx2_turn (hF : mh_Fe h o a u t k v cs) (hne : cs ≠ []) : ∃ h' w, f_X2_turn_e o h = some h' ∧ mh_Fw h' o a u t k v cs w ∧ mh_fr [o, k, v] h h' := by
  have hap := hF.ap
  obtain ⟨⟨p1, p2, p3, p4⟩, ⟨p5, p6, p7, p8⟩, p9, p10, p11, p12, p13, p14, p15⟩ := hap
  have hF0 := hF
  obtain ⟨fc, ft, fv, x, tn, kn, r1, r2, r3, r4, r5, r6, r7, r8, r9⟩ := hF
  have hl := r6.1.1
  have hlp := List.length_pos_iff.mpr hne
  obtain ⟨g1, g2, g3, g4⟩ := mh_tp_ok r6 hne
  have gp := (g1.2 _ g1.1).1
  have g4' : mh_gI h o 2 4 = some tn := mh_gI_eq r1 rfl
  unfold f_X2_turn_e
  rw [g4', Option.bind_some]
  rcases r9 with r9 | ⟨r9, r10⟩
  · rw [if_pos r9]
    subst r9
    rw [mh_pZ, if_pos (Or.inr rfl), mh_pI_s [.ref a, .ref t, .ref k, .int (nI kn), .int 1] r1 ⟨Nat.le_of_ble_eq_true rfl, rfl⟩, Option.bind_some]
    have s1 : (mh_up h o (.inr (2, [.ref a, .ref t, .ref k, .int (nI kn), .int 1]))) o = some (.inr (2, [.ref a, .ref t, .ref k, .int (nI kn), .int 1])) := mh_up_eq _ _ _
    have s2 : mh_Co (mh_up h o (.inr (2, [.ref a, .ref t, .ref k, .int (nI kn), .int 1]))) a u fc cs := r2.keep (mh_up_ne p5) (mh_up_ne p6)
    have s4 : (mh_up h o (.inr (2, [.ref a, .ref t, .ref k, .int (nI kn), .int 1]))) k = some (.inr (0, [.ref v, .int x])) := by rw [mh_up_ne p1]; exact r4
    have s5 : (mh_up h o (.inr (2, [.ref a, .ref t, .ref k, .int (nI kn), .int 1]))) v = some (.inl (0, 300, .inl fv)) := by rw [mh_up_ne p3]; exact r5
    obtain ⟨f1, e1, e2⟩ := mh_fx0_start s4 s5 (m := mh_tp cs) gp g2
    rw [mh_gR_eq (k := 2) s1 rfl, Option.bind_some, mh_gR_eq (k := 0) s1 rfl, Option.bind_some, mh_cal_eq s2.1, mh_b2_eq (mh_fx1_greatest s2), mh_cal_eq s4]
    show ∃ h' w, (((f_X0_start_e k (nI (mh_tp cs)) _).bind _) = _) ∧ _
    rw [e1, Option.bind_some, mh_nm_eq]
    have z1 : ∀ f, (mh_up (mh_up (mh_up h o (.inr (2, [.ref a, .ref t, .ref k, .int (nI kn), .int 1]))) k (.inr (0, [.ref v, .int (nI (mh_tp cs))]))) v (.inl (0, 300, .inl f))) o = some (.inr (2, [.ref a, .ref t, .ref k, .int (nI kn), .int 1])) := fun f => by rw [mh_up_ne p3.symm, mh_up_ne p1.symm]; exact s1
    have z2 : ∀ f, mh_Co (mh_up (mh_up (mh_up h o (.inr (2, [.ref a, .ref t, .ref k, .int (nI kn), .int 1]))) k (.inr (0, [.ref v, .int (nI (mh_tp cs))]))) v (.inl (0, 300, .inl f))) a u fc cs := fun f => s2.keep (by rw [mh_up_ne p11, mh_up_ne p9]) (by rw [mh_up_ne p12, mh_up_ne p10])
    have key := mh_wh (fun n (q : Nat × (Nat → Int32) × (Nat → Nat)) => f_X2_turn_b29 n o (nI q.1) (mh_up (mh_up (mh_up h o (.inr (2, [.ref a, .ref t, .ref k, .int (nI kn), .int 1]))) k (.inr (0, [.ref v, .int (nI (mh_tp cs))]))) v (.inl (0, 300, .inl q.2.1))))
      (fun (q : (Nat → Int32) × (Nat → Nat)) => some (mh_up (mh_up (mh_up h o (.inr (2, [.ref a, .ref t, .ref k, .int (nI kn), .int 1]))) k (.inr (0, [.ref v, .int (nI (mh_tp cs))]))) v (.inl (0, 300, .inl q.1))))
      (fun q => q.1 ≤ cs.length - 1 ∧ mh_Cl (mh_up (mh_up (mh_up h o (.inr (2, [.ref a, .ref t, .ref k, .int (nI kn), .int 1]))) k (.inr (0, [.ref v, .int (nI (mh_tp cs))]))) v (.inl (0, 300, .inl q.2.1))) k v (mh_tp cs) q.2.1 q.2.2 ∧ mh_Ex (mh_tp cs) (cs.take q.1) (mh_wf (mh_tp cs)) q.2.2) (fun q => cs.length - 1 - q.1)
      (fun q => mh_Cl (mh_up (mh_up (mh_up h o (.inr (2, [.ref a, .ref t, .ref k, .int (nI kn), .int 1]))) k (.inr (0, [.ref v, .int (nI (mh_tp cs))]))) v (.inl (0, 300, .inl q.1))) k v (mh_tp cs) q.1 q.2 ∧ mh_Ex (mh_tp cs) cs.dropLast (mh_wf (mh_tp cs)) q.2)
      (fun n q hq => by
        obtain ⟨i, f, w⟩ := q
        obtain ⟨q1, q2, q3⟩ := hq
        have q1 : i ≤ cs.length - 1 := q1
        have q3 : mh_Ex (mh_tp cs) (cs.take i) (mh_wf (mh_tp cs)) w := q3
        have q2 : mh_Cl (mh_up (mh_up (mh_up h o (.inr (2, [.ref a, .ref t, .ref k, .int (nI kn), .int 1]))) k (.inr (0, [.ref v, .int (nI (mh_tp cs))]))) v (.inl (0, 300, .inl f))) k v (mh_tp cs) f w := q2
        show (∃ s', _ ∧ _ ∧ f_X2_turn_b29 (n + 1) o (nI i) (mh_up (mh_up (mh_up h o (.inr (2, [.ref a, .ref t, .ref k, .int (nI kn), .int 1]))) k (.inr (0, [.ref v, .int (nI (mh_tp cs))]))) v (.inl (0, 300, .inl f))) = _) ∨ ∃ r, _ ∧ f_X2_turn_b29 (n + 1) o (nI i) (mh_up (mh_up (mh_up h o (.inr (2, [.ref a, .ref t, .ref k, .int (nI kn), .int 1]))) k (.inr (0, [.ref v, .int (nI (mh_tp cs))]))) v (.inl (0, 300, .inl f))) = _
        have zc := z2 f
        have zo := z1 f
        have el : nI cs.length - 1 = nI (cs.length - 1) := by
          rw [show cs.length = (cs.length - 1) + 1 by omega, nI_pred]
          rfl
        by_cases hi : i < cs.length - 1
        · left
          have hci := r6.1.get (show i < cs.length by omega)
          have wfb : ∀ x, 1 ≤ x → mh_wf (mh_tp cs) x ≤ 299001 := fun x hx => by unfold mh_wf; omega
          have hB : ∀ r, r < mh_tp cs → w r ≠ mh_INF → w r ≤ 89401299 := fun r hr hw => by
            have := mh_Ex_b gp q3 (W := 299001) (fun x hx => wfb x (r6.1.2 x (List.mem_of_mem_take hx)).1) hr hw
            have := Nat.mul_le_mul_right 299001 (show mh_tp cs - 1 ≤ 299 by omega)
            omega
          have hwi := wfb _ hci.1
          obtain ⟨f', w', x1, x2, ⟨T, x3⟩, x4⟩ := mh_fx0_allow (st := cs.getD i 0) (wt := mh_wf (mh_tp cs) (cs.getD i 0)) q2 hci.2 hB (by unfold mh_INF; omega)
          rw [mh_up_up] at x1 x2
          have c1 : ¬ nI (cs.length - 1) ≤ nI i := fun q => absurd ((nI_leI (by omega) (by omega)).mp q) (by omega)
          refine ⟨(i + 1, f', w'), ⟨hi, x2, ?_⟩, by show cs.length - 1 - (i + 1) < cs.length - 1 - i; omega, ?_⟩
          · show mh_Ex (mh_tp cs) (cs.take (i + 1)) (mh_wf (mh_tp cs)) w'
            rw [mh_take_s (by omega)]
            refine mh_Ex_add (B := 89401299) gp q3 hB ?_ x3 x4
            have := Nat.mul_le_mul g2 hwi
            unfold mh_INF
            omega
          · rw [f_X2_turn_b29, mh_gR_eq (k := 0) zo rfl, Option.bind_some, mh_cal_eq zc.1, mh_b2_eq (mh_fx1_count zc), el, if_neg c1, mh_gR_eq (k := 2) zo rfl, Option.bind_some, mh_gR_eq (k := 0) zo rfl, Option.bind_some, mh_cal_eq zc.1, mh_b2_eq (mh_fx1_value zc (by omega)), mh_cal_eq zo, mh_b2_eq (mh_fx2_weightOf zo zc r6 (by omega)), mh_cal_eq q2.1, x1, Option.bind_some, mh_nm_eq, mh_inc]
        · right
          have e : i = cs.length - 1 := by omega
          have c1 : nI (cs.length - 1) ≤ nI i := (nI_leI (by omega) (by omega)).mpr (by omega)
          refine ⟨(f, w), ⟨q2, by rw [List.dropLast_eq_take, ← e]; exact q3⟩, ?_⟩
          rw [f_X2_turn_b29, mh_gR_eq (k := 0) zo rfl, Option.bind_some, mh_cal_eq zc.1, mh_b2_eq (mh_fx1_count zc), el, if_pos c1]
          rfl)
      (cs.length - 1) mh_fu (0, f1, _) (by show cs.length - 1 - 0 ≤ _; omega) ⟨Nat.zero_le _, e2, by rw [List.take_zero]; exact mh_Ex_0 gp _⟩ (mh_fuel _ (by omega))
    obtain ⟨⟨f', w⟩, ⟨y1, y2⟩, y3⟩ := key
    have y1 : mh_Cl (mh_up (mh_up (mh_up h o (.inr (2, [.ref a, .ref t, .ref k, .int (nI kn), .int 1]))) k (.inr (0, [.ref v, .int (nI (mh_tp cs))]))) v (.inl (0, 300, .inl f'))) k v (mh_tp cs) f' w := y1
    have y3 : f_X2_turn_b29 mh_fu o (nI 0) _ = some (mh_up (mh_up (mh_up h o (.inr (2, [.ref a, .ref t, .ref k, .int (nI kn), .int 1]))) k (.inr (0, [.ref v, .int (nI (mh_tp cs))]))) v (.inl (0, 300, .inl f'))) := y3
    rw [nI_0] at y3
    refine ⟨_, w, y3, ⟨⟨fc, ft, f', nI (mh_tp cs), 1, kn, z1 f', z2 f', ?_, y1.1, mh_up_eq _ _ _, r6, r7, r8, Or.inr ⟨rfl, fun _ => ⟨w, y1, y2⟩⟩⟩, mh_gI_eq (z1 f') rfl, hne, f', y1, y2⟩, ?_⟩
    · rw [mh_up_ne p14, mh_up_ne p13, mh_up_ne p15]; exact r3
    · exact ((mh_fr.up (by simp)).trans (mh_fr.up (by simp))).trans (mh_fr.up (by simp))
  · rw [if_neg (by rw [r9]; decide)]
    obtain ⟨w, w1, w2⟩ := r10 hne
    exact ⟨h, w, rfl, ⟨hF0, by rw [g4', r9], hne, fv, w1, w2⟩, mh_fr.rfl⟩
variable {w : Nat → Nat}
theorem mh_fx2_lack (hF : mh_Fw h o a u t k v cs w) {r : Nat} (hr : r < mh_tp cs) : f_X2_lack_e o (nI r) h = some (nI (w r / 1000), h) := by
  obtain ⟨hF, h1, h2, fv, h3, h4⟩ := hF
  obtain ⟨y, tn, ho⟩ := hF.ob
  have hw := (h3.2.2.2.2 r hr).2
  unfold f_X2_lack_e
  rw [mh_gR_eq (k := 2) ho rfl, Option.bind_some, mh_cal_eq h3.1, mh_b2_eq (mh_fx0_weight h3 hr), mh_nz_eq (by decide)]
  have e : nI (w r) / (1000 : Int32) = nI (w r / 1000) := pk_div (d := 1000) (by unfold mh_INF at hw; omega) (by omega) (by omega)
  rw [e]
theorem mh_fx2_beside (hF : mh_Fw h o a u t k v cs w) {r : Nat} (hr : r < mh_tp cs) : f_X2_beside_e o (nI r) h = some (nI (w r % 1000), h) := by
  obtain ⟨hF, h1, h2, fv, h3, h4⟩ := hF
  obtain ⟨y, tn, ho⟩ := hF.ob
  have hw := (h3.2.2.2.2 r hr).2
  unfold f_X2_beside_e
  rw [mh_gR_eq (k := 2) ho rfl, Option.bind_some, mh_cal_eq h3.1, mh_b2_eq (mh_fx0_weight h3 hr), mh_nz_eq (by decide)]
  have e : mh_irem (nI (w r)) (1000 : Int32) = nI (w r % 1000) := pk_rem (d := 1000) (by unfold mh_INF at hw; omega) (by omega) (by omega)
  rw [e]
theorem mh_fx2_wheelFrom (hF : mh_Fw h o a u t k v cs w) {r : Nat} (hr : r < mh_tp cs) : f_X2_wheelFrom_e o (nI r) h = some ((if w r = mh_INF then nI mh_INF else nI (mh_fm (mh_tp cs) w r)), h) := by
  have hF0 := hF
  obtain ⟨hF, h1, h2, fv, h3, h4⟩ := hF
  obtain ⟨y, tn, ho⟩ := hF.ob
  have hI : mh_INF < 2 ^ 31 := by unfold mh_INF; omega
  have hw := (h3.2.2.2.2 r hr).2
  unfold f_X2_wheelFrom_e
  rw [mh_gR_eq (k := 2) ho rfl, Option.bind_some, mh_cal_eq h3.1, mh_b2_eq (mh_fx0_weight h3 hr)]
  by_cases hc : w r = mh_INF
  · rw [if_pos (by rw [hc]; rfl), if_pos hc]
    rfl
  · have ef := (mh_whl_fm hF.ms h2 h4 hr hc).2.2.1
    rw [if_neg (by rw [mh_nI_inf, nI_eq (by omega) hI]; exact hc), if_neg hc, mh_cal_eq ho, mh_b2_eq (mh_fx2_beside hF0 hr), mh_gR_eq (k := 2) ho rfl, Option.bind_some, mh_cal_eq h3.1, mh_b2_eq (mh_fx0_modulus h3), mh_cal_eq ho, mh_b2_eq (mh_fx2_lack hF0 hr), mh_nI_mul, pk_sub (by omega)]
    rfl
end MhTurn
