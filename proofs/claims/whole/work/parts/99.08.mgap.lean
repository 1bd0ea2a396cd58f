section MhModelGp
variable {h : mh_H} {bd : Nat → Nat} {σ : mh_Sg} {F : Nat → Int32}
/-- beyond the table the divisor says what is paid -/
theorem mh_far {cs : List Nat} (hm : mh_ms cs) {s : Nat} (hs : 100300 < s) : ¬ mh_py cs s ↔ (mh_gd cs 0 = 0 ∨ s % mh_gd cs 0 ≠ 0) := by
  by_cases hne : cs = []
  · subst hne
    exact ⟨fun _ => Or.inl rfl, fun _ q => by have := mh_py_nil.mp q; omega⟩
  · have h0 : 0 < cs.length := by
      rcases Nat.eq_zero_or_pos cs.length with q | q
      · exact absurd (List.length_eq_zero_iff.mp q) hne
      · exact q
    have hc := hm.1.get h0
    have hd := (mh_gd_dvd cs 0).2 _ (mh_get_mem h0)
    have hz : mh_gd cs 0 ≠ 0 := fun q => by
      rw [q] at hd
      have := Nat.eq_zero_of_zero_dvd hd
      omega
    constructor
    · intro q
      refine Or.inr (fun e => q ?_)
      exact mh_big hm hne (Nat.dvd_of_mod_eq_zero e) (by omega)
    · rintro (q | q)
      · exact absurd q hz
      · intro e
        exact q (Nat.mod_eq_zero_of_dvd (mh_py_dvd (mh_gd_dvd cs 0).2 e))
theorem mh_r_gapFar {cs : List Nat} (hm : mh_ms cs) (hg : mh_gd cs 0 ≠ 1) {i : Nat} (hi : i ≤ 1000000) (hn : mh_cn (fun s => ¬ mh_py cs s) 100301 ≤ i) : ∃ s, f_X12_gap_b99 mh_fu (nI i) (nI (mh_cn (fun s => ¬ mh_py cs s) 100301)) (nI (mh_gd cs 0)) (100300 : Int32) h = some (nI s, h) ∧ s < 2 ^ 30 ∧ ¬ mh_py cs s ∧ mh_cn (fun s => ¬ mh_py cs s) s = i := by
  have gb := mh_gd_b hm
  obtain ⟨d, ed⟩ : ∃ d, d = mh_gd cs 0 := ⟨_, rfl⟩
  have far := fun (s : Nat) (hs : 100300 < s) => mh_far hm hs
  rw [← ed] at gb far hg ⊢
  -- 1 if the next is no gap
  have key := mh_wh (fun m (s : Nat) => f_X12_gap_b99 m (nI i) (nI (mh_cn (fun s => ¬ mh_py cs s) (s + 1))) (nI d) (nI s) h) (fun (r : Nat) => some (nI r, h)) (fun s => 100300 ≤ s ∧ s + (if d ≠ 0 ∧ (s + 1) % d = 0 then 1 else 0) ≤ 100301 + 2 * mh_cn (fun s => ¬ mh_py cs s) (s + 1) ∧ (mh_cn (fun s => ¬ mh_py cs s) (s + 1) ≤ i ∨ (¬ mh_py cs s ∧ mh_cn (fun s => ¬ mh_py cs s) s = i))) (fun s => 2 * (i + 1 - mh_cn (fun s => ¬ mh_py cs s) (s + 1)) + (if d ≠ 0 ∧ (s + 1) % d = 0 then 1 else 0)) (fun s => s < 2 ^ 30 ∧ ¬ mh_py cs s ∧ mh_cn (fun s => ¬ mh_py cs s) s = i)
    (fun m s hs => by
      obtain ⟨q1, q2, q3⟩ := hs
      show (∃ s', _ ∧ _ ∧ f_X12_gap_b99 (m + 1) (nI i) (nI (mh_cn (fun s => ¬ mh_py cs s) (s + 1))) (nI d) (nI s) h = _) ∨ ∃ r, _ ∧ f_X12_gap_b99 (m + 1) (nI i) (nI (mh_cn (fun s => ¬ mh_py cs s) (s + 1))) (nI d) (nI s) h = _
      have cl : mh_cn (fun s => ¬ mh_py cs s) (s + 1) ≤ i + 1 := by
        rcases q3 with q | ⟨q, e⟩
        · omega
        · rw [mh_cn_y (P := fun s => ¬ mh_py cs s) q]; omega
      have sb : s < 2 ^ 30 := by omega
      rw [f_X12_gap_b99]
      by_cases c : mh_cn (fun s => ¬ mh_py cs s) (s + 1) ≤ i
      · left
        have fr := far (s + 1) (by omega)
        refine ⟨s + 1, ?_⟩
        rw [if_neg (fun q => absurd ((nI_ltI (by omega) (by omega)).mp q) (by omega)), mh_nm_eq, mh_inc]
        by_cases py : mh_py cs (s + 1)
        · have nf : ¬ (d = 0 ∨ (s + 1) % d ≠ 0) := fun q => fr.mpr q py
          have d0 : d ≠ 0 := fun q => nf (Or.inl q)
          have dm : (s + 1) % d = 0 := Decidable.byContradiction (fun q => nf (Or.inr q))
          have d1 : ¬ (d ≠ 0 ∧ (s + 1 + 1) % d = 0) := fun q => by
            have a1 := Nat.dvd_of_mod_eq_zero dm
            have a2 := Nat.dvd_of_mod_eq_zero q.2
            have a3 := (Nat.dvd_add_right a1).mp a2
            have := Nat.le_of_dvd (by omega) a3
            omega
          have ec : mh_cn (fun s => ¬ mh_py cs s) (s + 1 + 1) = mh_cn (fun s => ¬ mh_py cs s) (s + 1) := mh_cn_n (P := fun s => ¬ mh_py cs s) (fun q => q py)
          have z0 : ¬ nI d = 0 := fun q => d0 ((mh_eqr (b := 0) 0 rfl (by omega) (by omega)).mp q)
          have er : mh_irem (nI (s + 1)) (nI d) = nI ((s + 1) % d) := pk_rem (by omega) (by omega) (by omega)
          rw [if_pos ⟨d0, dm⟩] at q2
          rw [ec, if_neg d1, if_pos ⟨d0, dm⟩]
          refine ⟨⟨by omega, by omega, Or.inl c⟩, by omega, ?_⟩
          rw [if_neg z0, mh_nz_eq z0, er, dm, if_pos (show nI 0 = 0 from rfl)]
        · have ff := fr.mp py
          have ec : mh_cn (fun s => ¬ mh_py cs s) (s + 1 + 1) = mh_cn (fun s => ¬ mh_py cs s) (s + 1) + 1 := mh_cn_y (P := fun s => ¬ mh_py cs s) py
          have d1 : ¬ (d ≠ 0 ∧ (s + 1) % d = 0) := fun q => ff.elim q.1 (fun e => e q.2)
          rw [if_neg d1] at q2
          rw [ec, if_neg d1]
          refine ⟨⟨by omega, by split <;> omega, ?_⟩, by split <;> omega, ?_⟩
          · by_cases e : mh_cn (fun s => ¬ mh_py cs s) (s + 1) = i
            · exact Or.inr ⟨py, e⟩
            · exact Or.inl (by omega)
          · by_cases dz : d = 0
            · rw [if_pos (by rw [dz]; rfl)]
              unfold f_X12_gap_b120
              rw [mh_nm_eq, mh_inc]
            · have z0 : ¬ nI d = 0 := fun q => dz ((mh_eqr (b := 0) 0 rfl (by omega) (by omega)).mp q)
              have er : mh_irem (nI (s + 1)) (nI d) = nI ((s + 1) % d) := pk_rem (by omega) (by omega) (by omega)
              have ml := Nat.mod_lt (s + 1) (show 0 < d by omega)
              have dm : (s + 1) % d ≠ 0 := ff.elim (fun q => absurd q dz) id
              rw [if_neg z0, mh_nz_eq z0, er, if_neg (fun q => dm ((mh_eqr (b := 0) 0 rfl (by omega) (by omega)).mp q))]
              unfold f_X12_gap_b120
              rw [mh_nm_eq, mh_inc]
      · right
        rcases q3 with q | ⟨q, e⟩
        · exact absurd q c
        · exact ⟨s, ⟨sb, q, e⟩, by rw [if_pos ((nI_ltI (by omega) (by omega)).mpr (by omega))]; rfl⟩)
    (2 * (i + 1) + 1) mh_fu 100300 (by show 2 * (i + 1 - _) + (if d ≠ 0 ∧ (100300 + 1) % d = 0 then 1 else 0) ≤ _; split <;> omega) ⟨Nat.le_refl _, by split <;> omega, Or.inl hn⟩ (mh_fuel _ (by omega))
  obtain ⟨s, ⟨z1, z2, z3⟩, z4⟩ := key
  exact ⟨s, z4, z1, z2, z3⟩
theorem mh_r_gap (hR : mh_RI h bd σ F) {p : Nat} (hp : p < 8) (hT : mh_Tb h bd F (mh_mi σ p)) (hm : mh_ms (mh_mi σ p)) {i : Nat} (hi : i ≤ 1000000) : ∃ z, f_X12_gap_b44 mh_fu (bd 0) (nI p) (nI i) 0 1 h = some (z, h) ∧ ((∃ s, s < 2 ^ 30 ∧ ¬ mh_py (mh_mi σ p) s ∧ mh_cn (fun s => ¬ mh_py (mh_mi σ p) s) s = i ∧ z = nI s) ∨ ((∀ s, ¬ mh_py (mh_mi σ p) s → mh_cn (fun s => ¬ mh_py (mh_mi σ p) s) s ≠ i) ∧ z = -1)) := by
  have ho := hR.ob
  have dv := mh_r_divisorOf hR hp
  obtain ⟨cs, ecs⟩ : ∃ cs, cs = mh_mi σ p := ⟨_, rfl⟩
  rw [← ecs] at hT hm dv ⊢
  have gb := mh_gd_b hm
  have key := mh_wh (fun m (s : Nat) => f_X12_gap_b44 m (bd 0) (nI p) (nI i) (nI (mh_cn (fun s => ¬ mh_py cs s) s)) (nI s) h) (fun (r : Int32) => some (r, h)) (fun s => s ≤ 100301 ∧ mh_cn (fun s => ¬ mh_py cs s) s ≤ i ∧ ∀ t, t < s → ¬ mh_py cs t → mh_cn (fun s => ¬ mh_py cs s) t ≠ i) (fun s => 100301 - s) (fun z => (∃ s, s < 2 ^ 30 ∧ ¬ mh_py cs s ∧ mh_cn (fun s => ¬ mh_py cs s) s = i ∧ z = nI s) ∨ ((∀ s, ¬ mh_py cs s → mh_cn (fun s => ¬ mh_py cs s) s ≠ i) ∧ z = -1))
    (fun m s hs => by
      obtain ⟨q1, q2, q3⟩ := hs
      show (∃ s', _ ∧ _ ∧ f_X12_gap_b44 (m + 1) (bd 0) (nI p) (nI i) (nI (mh_cn (fun s => ¬ mh_py cs s) s)) (nI s) h = _) ∨ ∃ r, _ ∧ f_X12_gap_b44 (m + 1) (bd 0) (nI p) (nI i) (nI (mh_cn (fun s => ¬ mh_py cs s) s)) (nI s) h = _
      rw [f_X12_gap_b44]
      by_cases hlt : s ≤ 100300
      · rw [if_neg (fun q => absurd ((mh_ltl (a := 100300) 100300 rfl (by omega) (by omega)).mp q) (by omega)), mh_cal_eq ho]
        rcases mh_r_isPaid ho hT hm hlt with ⟨c1, c2⟩ | ⟨c1, c2⟩
        · left
          have ec : mh_cn (fun s => ¬ mh_py cs s) (s + 1) = mh_cn (fun s => ¬ mh_py cs s) s := mh_cn_n (P := fun s => ¬ mh_py cs s) (fun q => q c1)
          refine ⟨s + 1, ⟨by omega, by rw [ec]; exact q2, fun t ht => ?_⟩, by omega, ?_⟩
          · by_cases e : t = s
            · rw [e]; exact fun q => absurd c1 q
            · exact q3 t (by omega)
          · rw [mh_b2_eq c2, if_neg (by decide), ec]
            unfold f_X12_gap_b74
            rw [mh_nm_eq, mh_inc]
        · rw [mh_b2_eq c2, if_pos rfl]
          by_cases e : mh_cn (fun s => ¬ mh_py cs s) s = i
          · right
            exact ⟨nI s, Or.inl ⟨s, by omega, c1, e, rfl⟩, by rw [if_pos (by rw [e])]; rfl⟩
          · left
            have ec : mh_cn (fun s => ¬ mh_py cs s) (s + 1) = mh_cn (fun s => ¬ mh_py cs s) s + 1 := mh_cn_y (P := fun s => ¬ mh_py cs s) c1
            refine ⟨s + 1, ⟨by omega, by rw [ec]; omega, fun t ht => ?_⟩, by omega, ?_⟩
            · by_cases e2 : t = s
              · rw [e2]; exact fun _ => e
              · exact q3 t (by omega)
            · rw [if_neg (fun q => e ((nI_eq (by omega) (by omega)).mp q)), mh_nm_eq, mh_inc, ec]
              unfold f_X12_gap_b74
              rw [mh_nm_eq, mh_inc]
      · right
        have e : s = 100301 := by omega
        subst e
        rw [if_pos ((mh_ltl (a := 100300) 100300 rfl (by omega) (by omega)).mpr (by omega))]
        unfold f_X12_gap_b80
        rw [mh_cal_eq ho, mh_b2_eq dv]
        by_cases c : mh_gd cs 0 = 1
        · refine ⟨-1, Or.inr ⟨fun s hs => ?_, rfl⟩, by rw [if_pos (by rw [c]; rfl)]⟩
          refine q3 s (Nat.lt_of_not_le (fun q => hs ?_)) hs
          exact mh_big hm (mh_gd_ne c) (by rw [c]; exact Nat.one_dvd s) (by omega)
        · obtain ⟨s, y1, y2, y3, y4⟩ := mh_r_gapFar (h := h) hm c hi q2
          exact ⟨nI s, Or.inl ⟨s, y2, y3, y4, rfl⟩, by rw [if_neg (fun q => c ((mh_eqr (b := 1) 1 rfl (by omega) (by omega)).mp q)), mh_nm_eq]; exact y1⟩)
    100301 mh_fu 1 (by omega) ⟨by omega, by
      rw [show mh_cn (fun s => ¬ mh_py cs s) 1 = 0 from mh_cn_n (P := fun s => ¬ mh_py cs s) (n := 0) (fun c => c (mh_py0 cs))]
      exact Nat.zero_le _, fun t ht q => by rw [show t = 0 by omega] at q; exact absurd (mh_py0 cs) q⟩ (mh_fuel _ (by omega))
  obtain ⟨z, z1, z2⟩ := key
  have e0 : mh_cn (fun s => ¬ mh_py cs s) 1 = 0 := mh_cn_n (P := fun s => ¬ mh_py cs s) (n := 0) (fun c => c (mh_py0 cs))
  rw [e0] at z2
  exact ⟨z, z2, z1⟩
theorem mh_M_gap (hR : mh_RI h bd σ F) (x1 x2 : Int32) : ∃ r v h' F', f_X12_gap_e (bd 0) x1 x2 h = some (v, h') ∧ mh_Qm σ x1 (mh_Bgap x2) r ∧ mh_an r v F' ∧ mh_RI h' bd σ F' ∧ mh_frR bd h h' := by
  obtain ⟨h1, F1, p1, R1, z1, f1⟩ := mh_r_code hR
  unfold f_X12_gap_e
  rw [p1, Option.bind_some]
  rcases mh_r_isMint (h := h1) x1 with ⟨p, a1, a2, a3⟩ | ⟨a1, a3⟩
  · subst a2
    rw [mh_b2_eq a3, if_neg (by decide)]
    have bad : (∀ i, i ≤ 1000000 → x2 ≠ nI i) → ∃ r v h' F', f_X12_gap_b28 (bd 0) h1 = some (v, h') ∧ mh_Qm σ (nI p) (mh_Bgap x2) r ∧ mh_an r v F' ∧ mh_RI h' bd σ F' ∧ mh_frR bd h h' := fun hb => by
      obtain ⟨h2, F2, y1, R2, z2, f2⟩ := mh_r_fl R1 2 (fun v12 h11 => some (v12, h11))
      exact ⟨.inl 2, _, h2, F2, y1, Or.inr ⟨p, a1, rfl, Or.inr ⟨hb, rfl⟩⟩, Or.inr ⟨2, rfl, z2⟩, R2, f1.trans f2⟩
    rcases mh_sgn x2 with ⟨q1, q2⟩ | ⟨q1, i, q2, q3⟩
    · rw [if_pos q1]
      exact bad (fun i hi => q2 i (by omega))
    · subst q3
      rw [if_neg q1]
      by_cases c : i ≤ 1000000
      · obtain ⟨h2, F2, y1, R2, z2, T2, f2⟩ := mh_r_table R1 a1
        obtain ⟨g, hg, hw⟩ := R1.2 1 (by omega)
        obtain ⟨z, u1, u2⟩ := mh_r_gap R2 a1 T2 (hw p a1).1 c
        rw [if_pos ((mh_ler (b := 1000000) 1000000 rfl (by omega) (by omega)).mpr c), mh_cal_eq R1.ob, y1, Option.bind_some, mh_nm_eq, mh_nm_eq, u1]
        refine ⟨.inr z, _, h2, F2, rfl, Or.inr ⟨p, a1, rfl, Or.inl ⟨i, c, rfl, ?_⟩⟩, Or.inl ⟨rfl, z2.trans z1⟩, R2, f1.trans f2⟩
        rcases u2 with ⟨s, s1, s2, s3, s4⟩ | ⟨s1, s2⟩
        · exact Or.inl ⟨s, s1, s2, s3, by rw [s4]⟩
        · exact Or.inr ⟨s1, by rw [s2]⟩
      · rw [if_neg (fun q => c ((mh_ler (b := 1000000) 1000000 rfl (by omega) (by omega)).mp q))]
        refine bad (fun j hj e => c ?_)
        have := (nI_eq (by omega) (by omega)).mp e
        omega
  · obtain ⟨h2, F2, y1, R2, z2, f2⟩ := mh_r_fl R1 1 (fun v12 h11 => some (v12, h11))
    have y1 : mh_b2 (mh_cal h1 (bd 0) 12 (f_X12_fail_e (bd 0) (1 : Int32) h1)) _ = _ := y1
    rw [mh_b2_eq a3, if_pos rfl, y1]
    exact ⟨.inl 1, _, h2, F2, rfl, Or.inl ⟨a1, rfl⟩, Or.inr ⟨1, rfl, z2⟩, R2, f1.trans f2⟩
/-- a class of rests has a small paid sum, if any -/
theorem mh_small {cs : List Nat} (hm : mh_ms cs) {c t : Nat} (h0 : 0 < c) (hc : c ≤ 300) (ht : mh_py cs t) : ∃ s, s ≤ 89700 ∧ mh_py cs s ∧ s % c = t % c := by
  obtain ⟨n, l, l1, l2, l3⟩ := ht
  obtain ⟨l', a1, a2, a3, _⟩ := mh_short h0 (fun x => x) l.length l (Nat.le_refl _)
  refine ⟨l'.sum, ?_, ⟨l'.length, l', fun x hx => l1 x (a2 x hx), rfl, rfl⟩, by rw [a3, l2]⟩
  have := mh_sum_le l' (B := 300) (fun x hx => (hm.1.2 x (l1 x (a2 x hx))).2)
  have := Nat.mul_le_mul_right 300 (show l'.length ≤ 299 by omega)
  omega
theorem mh_M_rest (hR : mh_RI h bd σ F) (x1 x2 : Int32) : ∃ r v h' F', f_X12_rest_e (bd 0) x1 x2 h = some (v, h') ∧ mh_Qm σ x1 (mh_Brest x2) r ∧ mh_an r v F' ∧ mh_RI h' bd σ F' ∧ mh_frR bd h h' := by
  obtain ⟨h1, F1, p1, R1, z1, f1⟩ := mh_r_code hR
  unfold f_X12_rest_e
  rw [p1, Option.bind_some]
  rcases mh_r_isMint (h := h1) x1 with ⟨p, a1, a2, a3⟩ | ⟨a1, a3⟩
  · subst a2
    obtain ⟨g, hg, hw⟩ := R1.2 1 (by omega)
    obtain ⟨w1, w2, w3, w4, _⟩ := hw p a1
    have bad : (∀ q, q < (mh_mi σ p).getD 0 0 → x2 ≠ nI q) → ∃ r v h' F', f_X12_rest_b49 (bd 0) h1 = some (v, h') ∧ mh_Qm σ (nI p) (mh_Brest x2) r ∧ mh_an r v F' ∧ mh_RI h' bd σ F' ∧ mh_frR bd h h' := fun hb => by
      obtain ⟨h2, F2, y1, R2, z2, f2⟩ := mh_r_fl R1 2 (fun v12 h11 => some (v12, h11))
      exact ⟨.inl 2, _, h2, F2, y1, Or.inr ⟨p, a1, rfl, Or.inr ⟨hb, rfl⟩⟩, Or.inr ⟨2, rfl, z2⟩, R2, f1.trans f2⟩
    rw [mh_b2_eq a3, if_neg (by decide), mh_gR_eq (k := 1) R1.ob rfl, Option.bind_some, mh_b2_eq mh_r_mintAt, mh_aI_eq hg (show 13 * p < 304 by omega) (by omega), Option.bind_some, w3]
    obtain ⟨h2, F2, y1, R2, z2, T2, f2⟩ := mh_r_table R1 a1
    have good : ∀ q r, q < (mh_mi σ p).getD 0 0 → ((∃ s, s < 100000 ∧ mh_py (mh_mi σ p) s ∧ s % (mh_mi σ p).getD 0 0 = q ∧ (∀ t, mh_py (mh_mi σ p) t → t % (mh_mi σ p).getD 0 0 = q → s ≤ t) ∧ r = .inr (nI s)) ∨ ((∀ t, mh_py (mh_mi σ p) t → t % (mh_mi σ p).getD 0 0 ≠ q) ∧ r = .inr (-1))) → mh_Qm σ (nI p) (mh_Brest (nI q)) r := fun q r h1 h2 => Or.inr ⟨p, a1, rfl, Or.inl ⟨q, h1, rfl, h2⟩⟩
    obtain ⟨cs, ecs⟩ : ∃ cs, cs = mh_mi σ p := ⟨_, rfl⟩
    rw [← ecs] at w1 w3 w4 bad T2 good ⊢
    have hl := w1.1.1
    by_cases cn : cs.length = 0
    · rw [if_pos (by rw [cn]; rfl)]
      refine bad (fun q hq => ?_)
      have : cs.getD 0 0 = 0 := by rw [List.length_eq_zero_iff.mp cn]; rfl
      omega
    · have cb := w1.1.get (show 0 < cs.length by omega)
      rw [if_neg (fun q => cn ((mh_eqr (b := 0) 0 rfl (by omega) (by omega)).mp q))]
      rcases mh_sgn x2 with ⟨q1, q2⟩ | ⟨q1, q, q2, q3⟩
      · rw [if_pos q1]
        exact bad (fun i hi => q2 i (by omega))
      · subst q3
        have e1 : nI (13 * p) + (1 : Int32) = nI (13 * p + 1 + 0) := by rw [nI_1]
        rw [if_neg q1, mh_gR_eq (k := 1) R1.ob rfl, Option.bind_some, mh_b2_eq mh_r_mintAt, e1, mh_aI_eq hg (show 13 * p + 1 + 0 < 304 by omega) (by omega), Option.bind_some, w4 0 (by omega)]
        by_cases c : q < cs.getD 0 0
        · rw [if_pos ((nI_ltI (by omega) (by omega)).mpr c), mh_cal_eq R1.ob, y1, Option.bind_some]
          have T20 := T2
          obtain ⟨h7, fb, G, t1, t2, t3, t4, t5⟩ := T2
          obtain ⟨c0, ec0⟩ : ∃ c0, c0 = cs.getD 0 0 := ⟨_, rfl⟩
          rw [← ec0] at cb c good
          have key := mh_wh (fun m (k : Nat) => f_X12_rest_b62 m (bd 0) (nI (q + k * c0)) h2) (fun (r : Int32) => some (r, h2)) (fun k => q + k * c0 ≤ 100600 ∧ ∀ j, j < k → ¬ mh_py cs (q + j * c0)) (fun k => 100700 - k) (fun z => (∃ s, s < 100000 ∧ mh_py cs s ∧ s % c0 = q ∧ (∀ t, mh_py cs t → t % c0 = q → s ≤ t) ∧ z = nI s) ∨ ((∀ t, mh_py cs t → t % c0 ≠ q) ∧ z = -1))
            (fun m k hk => by
              obtain ⟨k1, k2⟩ := hk
              show (∃ s', _ ∧ _ ∧ f_X12_rest_b62 (m + 1) (bd 0) (nI (q + k * c0)) h2 = _) ∨ ∃ r, _ ∧ f_X12_rest_b62 (m + 1) (bd 0) (nI (q + k * c0)) h2 = _
              have kb : k ≤ k * c0 := Nat.le_mul_of_pos_right k (by omega)
              have low : ∀ t, mh_py cs t → t % c0 = q → q + k * c0 ≤ t := fun t t1 t2 => by
                have e := Nat.mod_add_div t c0
                refine Nat.le_of_not_lt (fun lt => k2 (t / c0) ?_ ?_)
                · refine Nat.lt_of_not_le (fun ge => ?_)
                  have := Nat.mul_le_mul_left c0 ge
                  rw [Nat.mul_comm c0 k] at this
                  omega
                · rw [← t2, Nat.mul_comm (t / c0) c0, e]
                  exact t1
              rw [f_X12_rest_b62]
              by_cases hlt : q + k * c0 ≤ 100300
              · rw [if_neg (fun q => absurd ((mh_ltl (a := 100300) 100300 rfl (by omega) (by omega)).mp q) (by omega)), mh_cal_eq R2.ob]
                rcases mh_r_isPaid R2.ob T20 w1 hlt with ⟨c1, c2⟩ | ⟨c1, c2⟩
                · right
                  have em : (q + k * c0) % c0 = q := by rw [Nat.add_mul_mod_self_right, Nat.mod_eq_of_lt c]
                  refine ⟨nI (q + k * c0), Or.inl ⟨q + k * c0, ?_, c1, em, low, rfl⟩, by rw [mh_b2_eq c2, if_neg (by decide)]; rfl⟩
                  obtain ⟨s, s1, s2, s3⟩ := mh_small w1 (show 0 < c0 by omega) (by omega) c1
                  have := low s s2 (s3.trans em)
                  omega
                · left
                  have e2 : nI (q + k * c0) + nI c0 = nI (q + (k + 1) * c0) := by rw [nI_add, Nat.succ_mul, Nat.add_assoc]
                  refine ⟨k + 1, ⟨by rw [Nat.succ_mul]; omega, fun j hj => ?_⟩, by omega, ?_⟩
                  · by_cases e : j = k
                    · rw [e]; exact c1
                    · exact k2 j (by omega)
                  · have a0 : mh_aI h2 (bd 24) 0 (0 : Int32) = some (fb 0) := mh_aI_eq (j := 0) t1 (by omega) (by omega)
                    rw [mh_b2_eq c2, if_pos rfl, mh_gR_eq (k := 6) R2.ob rfl, Option.bind_some, a0, Option.bind_some, t4 0 (by omega), ← ec0, e2, mh_nm_eq]
              · right
                refine ⟨-1, Or.inr ⟨fun t t1 t2 => ?_, rfl⟩, by rw [if_pos ((mh_ltl (a := 100300) 100300 rfl (by omega) (by omega)).mpr (by omega))]; rfl⟩
                obtain ⟨s, s1, s2, s3⟩ := mh_small w1 (show 0 < c0 by omega) (by omega) t1
                have := low s s2 (s3.trans t2)
                omega)
            100700 mh_fu 0 (by omega) ⟨by omega, fun j hj => absurd hj (Nat.not_lt_zero j)⟩ (mh_fuel _ (by omega))
          obtain ⟨z, v1, v2⟩ := key
          have v2 : f_X12_rest_b62 mh_fu (bd 0) (nI (q + 0 * c0)) h2 = some (z, h2) := v2
          rw [Nat.zero_mul, Nat.add_zero] at v2
          rw [v2]
          refine ⟨.inr z, z, h2, F2, rfl, good q _ c ?_, Or.inl ⟨rfl, z2.trans z1⟩, R2, f1.trans f2⟩
          rcases v1 with ⟨s, s1, s2, s3, s4, s5⟩ | ⟨s1, s2⟩
          · exact Or.inl ⟨s, s1, s2, s3, s4, by rw [s5]⟩
          · exact Or.inr ⟨s1, by rw [s2]⟩
        · rw [if_neg (fun q => c ((nI_ltI (by omega) (by omega)).mp q))]
          refine bad (fun j hj e => c ?_)
          have := (nI_eq (by omega) (by omega)).mp e
          omega
  · obtain ⟨h2, F2, y1, R2, z2, f2⟩ := mh_r_fl R1 1 (fun v12 h11 => some (v12, h11))
    have y1 : mh_b2 (mh_cal h1 (bd 0) 12 (f_X12_fail_e (bd 0) (1 : Int32) h1)) _ = _ := y1
    rw [mh_b2_eq a3, if_pos rfl, y1]
    exact ⟨.inl 1, _, h2, F2, rfl, Or.inl ⟨a1, rfl⟩, Or.inr ⟨1, rfl, z2⟩, R2, f1.trans f2⟩
theorem mh_r_mirror {cs : List Nat} (ho : h (bd 0) = some (.inr (12, mh_rf bd F))) (hT : mh_Tb h bd F cs) (hm : mh_ms cs) {L : Nat} (hL : L < 100000) : (((∀ s, s ≤ L → (mh_py cs s ↔ ¬ mh_py cs (L - s))) ∧ f_X12_mirror_b42 (bd 0) (nI L) h = some (1, h)) ∨ ((¬ ∀ s, s ≤ L → (mh_py cs s ↔ ¬ mh_py cs (L - s))) ∧ f_X12_mirror_b42 (bd 0) (nI L) h = some (0, h))) := by
  have key := mh_wh (fun m (q : Nat × Nat) => f_X12_mirror_b56 m (bd 0) (nI L) (nI q.2) (nI q.1) h) (fun (r : Nat) => some (nI r, h)) (fun q => q.1 ≤ L + 1 ∧ ((q.2 = 1 ∧ ∀ s, s < q.1 → (mh_py cs s ↔ ¬ mh_py cs (L - s))) ∨ (q.2 = 0 ∧ ¬ ∀ s, s ≤ L → (mh_py cs s ↔ ¬ mh_py cs (L - s))))) (fun q => L + 1 - q.1) (fun r => (r = 1 ∧ ∀ s, s ≤ L → (mh_py cs s ↔ ¬ mh_py cs (L - s))) ∨ (r = 0 ∧ ¬ ∀ s, s ≤ L → (mh_py cs s ↔ ¬ mh_py cs (L - s))))
    (fun m q hq => by
      obtain ⟨s, t⟩ := q
      obtain ⟨q1, q2⟩ := hq
      have q1 : s ≤ L + 1 := q1
      have q2 : (t = 1 ∧ ∀ u, u < s → (mh_py cs u ↔ ¬ mh_py cs (L - u))) ∨ (t = 0 ∧ ¬ ∀ s, s ≤ L → (mh_py cs s ↔ ¬ mh_py cs (L - s))) := q2
      show (∃ s', _ ∧ _ ∧ f_X12_mirror_b56 (m + 1) (bd 0) (nI L) (nI t) (nI s) h = _) ∨ ∃ r, _ ∧ f_X12_mirror_b56 (m + 1) (bd 0) (nI L) (nI t) (nI s) h = _
      rw [f_X12_mirror_b56]
      by_cases c : s ≤ L
      · rw [if_neg (fun q => absurd ((nI_ltI (by omega) (by omega)).mp q) (by omega))]
        rcases q2 with ⟨r1, r2⟩ | ⟨r1, r2⟩
        · subst r1
          left
          rw [if_neg (show ¬ nI 1 = 0 by decide), mh_cal_eq ho]
          have yes : (mh_py cs s ↔ ¬ mh_py cs (L - s)) → ∃ s' : Nat × Nat, (s'.1 ≤ L + 1 ∧ ((s'.2 = 1 ∧ ∀ u, u < s'.1 → (mh_py cs u ↔ ¬ mh_py cs (L - u))) ∨ (s'.2 = 0 ∧ ¬ ∀ s, s ≤ L → (mh_py cs s ↔ ¬ mh_py cs (L - s))))) ∧ L + 1 - s'.1 < L + 1 - s ∧ f_X12_mirror_b88 (f_X12_mirror_b56 m) (bd 0) (nI L) (nI s) (1 : Int32) h = f_X12_mirror_b56 m (bd 0) (nI L) (nI s'.2) (nI s'.1) h := fun y => by
            refine ⟨(s + 1, 1), ⟨by show s + 1 ≤ L + 1; omega, Or.inl ⟨rfl, fun u hu => ?_⟩⟩, by show L + 1 - (s + 1) < L + 1 - s; omega, ?_⟩
            · have hu : u < s + 1 := hu
              by_cases e : u = s
              · rw [e]; exact y
              · exact r2 u (by omega)
            · unfold f_X12_mirror_b88
              rw [mh_nm_eq, mh_inc]
              rfl
          have no : ¬ (mh_py cs s ↔ ¬ mh_py cs (L - s)) → ∃ s' : Nat × Nat, (s'.1 ≤ L + 1 ∧ ((s'.2 = 1 ∧ ∀ u, u < s'.1 → (mh_py cs u ↔ ¬ mh_py cs (L - u))) ∨ (s'.2 = 0 ∧ ¬ ∀ s, s ≤ L → (mh_py cs s ↔ ¬ mh_py cs (L - s))))) ∧ L + 1 - s'.1 < L + 1 - s ∧ f_X12_mirror_b88 (f_X12_mirror_b56 m) (bd 0) (nI L) (nI s) (0 : Int32) h = f_X12_mirror_b56 m (bd 0) (nI L) (nI s'.2) (nI s'.1) h := fun y => by
            refine ⟨(s + 1, 0), ⟨by show s + 1 ≤ L + 1; omega, Or.inr ⟨rfl, fun q => y (q s c)⟩⟩, by show L + 1 - (s + 1) < L + 1 - s; omega, ?_⟩
            unfold f_X12_mirror_b88
            rw [mh_nm_eq, mh_inc]
            rfl
          rcases mh_r_isPaid ho hT hm (show s ≤ 100300 by omega) with ⟨c1, c2⟩ | ⟨c1, c2⟩
          · rcases mh_r_isPaid ho hT hm (show L - s ≤ 100300 by omega) with ⟨d1, d2⟩ | ⟨d1, d2⟩
            · rw [mh_b2_eq c2, mh_cal_eq ho, pk_sub c, mh_b2_eq d2, if_pos rfl]
              exact no (fun q => q.mp c1 d1)
            · rw [mh_b2_eq c2, mh_cal_eq ho, pk_sub c, mh_b2_eq d2, if_neg (by decide)]
              exact yes ⟨fun _ => d1, fun _ => c1⟩
          · rcases mh_r_isPaid ho hT hm (show L - s ≤ 100300 by omega) with ⟨d1, d2⟩ | ⟨d1, d2⟩
            · rw [mh_b2_eq c2, mh_cal_eq ho, pk_sub c, mh_b2_eq d2, if_neg (by decide)]
              exact yes ⟨fun q => absurd q c1, fun q => absurd d1 q⟩
            · rw [mh_b2_eq c2, mh_cal_eq ho, pk_sub c, mh_b2_eq d2, if_pos rfl]
              exact no (fun q => c1 (q.mpr d1))
        · subst r1
          right
          exact ⟨0, Or.inr ⟨rfl, r2⟩, by rw [if_pos (show nI 0 = 0 from rfl)]; rfl⟩
      · right
        rcases q2 with ⟨r1, r2⟩ | ⟨r1, r2⟩
        · subst r1
          exact ⟨1, Or.inl ⟨rfl, fun u hu => r2 u (by omega)⟩, by rw [if_pos ((nI_ltI (by omega) (by omega)).mpr (by omega))]; rfl⟩
        · subst r1
          exact ⟨0, Or.inr ⟨rfl, r2⟩, by rw [if_pos ((nI_ltI (by omega) (by omega)).mpr (by omega))]; rfl⟩)
    (L + 1) mh_fu (0, 1) (by show L + 1 - 0 ≤ L + 1; omega) ⟨Nat.zero_le _, Or.inl ⟨rfl, fun u hu => absurd hu (Nat.not_lt_zero u)⟩⟩ (mh_fuel _ (by omega))
  obtain ⟨r, z1, z2⟩ := key
  have e : f_X12_mirror_b42 (bd 0) (nI L) h = some (nI r, h) := by
    unfold f_X12_mirror_b42
    rw [if_neg (nI_pos (by omega))]
    unfold f_X12_mirror_b52
    rw [mh_nm_eq]
    exact z2
  rw [e]
  rcases z1 with ⟨r1, r2⟩ | ⟨r1, r2⟩
  · subst r1
    exact Or.inl ⟨r2, rfl⟩
  · subst r1
    exact Or.inr ⟨r2, rfl⟩
theorem mh_r_mirrorNo (ho : h (bd 0) = some (.inr (12, mh_rf bd F))) : f_X12_mirror_b42 (bd 0) (-1 : Int32) h = some (0, h) := by
  unfold f_X12_mirror_b42
  rw [if_pos (by decide)]
  unfold f_X12_mirror_b52
  rw [mh_nm_eq]
  obtain ⟨n, en⟩ : ∃ n, mh_fu = n + 1 := ⟨8589934591, rfl⟩
  rw [en, f_X12_mirror_b56, if_pos (by decide)]
  rfl
theorem mh_M_mirror (hR : mh_RI h bd σ F) (x1 : Int32) : ∃ r v h' F', f_X12_mirror_e (bd 0) x1 h = some (v, h') ∧ mh_Qm σ x1 mh_Bmir r ∧ mh_an r v F' ∧ mh_RI h' bd σ F' ∧ mh_frR bd h h' := by
  obtain ⟨h1, F1, p1, R1, z1, f1⟩ := mh_r_code hR
  unfold f_X12_mirror_e
  rw [p1, Option.bind_some]
  rcases mh_r_isMint (h := h1) x1 with ⟨p, a1, a2, a3⟩ | ⟨a1, a3⟩
  · subst a2
    obtain ⟨h2, F2, y1, R2, z2, T2, f2⟩ := mh_r_table R1 a1
    obtain ⟨g, hg, hw⟩ := R1.2 1 (by omega)
    have w1 := (hw p a1).1
    have gb := mh_gd_b w1
    have no : ¬ mh_Pmir (mh_mi σ p) → ∀ v : Int32, v = 0 → ∃ r v' h' F', some (v, h2) = some (v', h') ∧ mh_Qm σ (nI p) mh_Bmir r ∧ mh_an r v' F' ∧ mh_RI h' bd σ F' ∧ mh_frR bd h h' := fun q v hv => ⟨.inr 0, v, h2, F2, rfl, Or.inr ⟨p, a1, rfl, Or.inr ⟨q, rfl⟩⟩, Or.inl ⟨by rw [hv], z2.trans z1⟩, R2, f1.trans f2⟩
    rw [mh_b2_eq a3, if_neg (by decide), mh_cal_eq R1.ob, y1, Option.bind_some, mh_cal_eq R2.ob, mh_b2_eq (mh_r_divisorOf R2 a1)]
    by_cases c : mh_gd (mh_mi σ p) 0 = 1
    · obtain ⟨z, u1, u2⟩ := mh_r_lastGap1 R2.ob T2 w1 c
      rw [if_pos (by rw [c]; rfl), mh_cal_eq R2.ob, mh_b2_eq u1]
      rcases u2 with ⟨v1, v2⟩ | ⟨L, v1, v2, v3, v4⟩
      · rw [v2, mh_r_mirrorNo R2.ob]
        exact no (fun q => by obtain ⟨_, L, l1, _⟩ := q; exact l1 (v1 L)) 0 rfl
      · rw [v4]
        rcases mh_r_mirror R2.ob T2 w1 v1 with ⟨m1, m2⟩ | ⟨m1, m2⟩
        · rw [m2]
          exact ⟨.inr 1, 1, h2, F2, rfl, Or.inr ⟨p, a1, rfl, Or.inl ⟨⟨c, L, v2, v3, m1⟩, rfl⟩⟩, Or.inl ⟨rfl, z2.trans z1⟩, R2, f1.trans f2⟩
        · rw [m2]
          refine no (fun q => ?_) 0 rfl
          obtain ⟨_, L', l1, l2, l3⟩ := q
          have e : L' = L := by
            rcases Nat.lt_trichotomy L' L with q | q | q
            · exact absurd (l2 L q) v2
            · exact q
            · exact absurd (v3 L' q) l1
          subst e
          exact m1 l3
    · rw [if_neg (fun q => c ((mh_eqr (b := 1) 1 rfl (by omega) (by omega)).mp q)), mh_r_mirrorNo R2.ob]
      exact no (fun q => c q.1) 0 rfl
  · obtain ⟨h2, F2, y1, R2, z2, f2⟩ := mh_r_fl R1 1 (fun _ h11 => mh_rz (0 : Int32) h11)
    have y1 : mh_b2 (mh_cal h1 (bd 0) 12 (f_X12_fail_e (bd 0) (1 : Int32) h1)) _ = _ := y1
    rw [mh_b2_eq a3, if_pos rfl, y1]
    exact ⟨.inl 1, 0, h2, F2, rfl, Or.inl ⟨a1, rfl⟩, Or.inr ⟨1, rfl, z2⟩, R2, f1.trans f2⟩
end MhModelGp
