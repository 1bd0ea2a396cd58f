theorem mh_gd_take {cs : List Nat} {i : Nat} (hi : i < cs.length) : mh_gd (cs.take (i + 1)) 0 = Nat.gcd (cs.getD i 0) (mh_gd (cs.take i) 0) := by
  rw [mh_take_s hi]
  unfold mh_gd
  rw [List.foldl_append]
  rfl
/-- all great sums that the divisor allows are paid -/
theorem mh_big {cs : List Nat} (hms : mh_ms cs) (hne : cs ≠ []) {s : Nat} (hd : mh_gd cs 0 ∣ s) (hs : 89700 ≤ s) : mh_py cs s := by
  have h0 : 0 < cs.length := by
    rcases Nat.eq_zero_or_pos cs.length with q | q
    · exact absurd (List.length_eq_zero_iff.mp q) hne
    · exact q
  have hc := hms.1.get h0
  refine mh_frob (m := cs.getD 0 0) (mh_py_c (mh_get_mem h0)) (by omega) (fun x hx => (hms.1.2 x hx).2) hd ?_
  have := Nat.mul_le_mul_right 300 (show cs.getD 0 0 - 1 ≤ 299 by omega)
  omega
section MhModelG
variable {h : mh_H} {bd : Nat → Nat} {σ : mh_Sg} {F : Nat → Int32}
theorem mh_r_common : ∀ (y x n : Nat), x < 2 ^ 31 → y < 2 ^ 31 → y < n → f_X12_common_b4 n (nI x) (nI y) h = some (nI (Nat.gcd x y), h) := by
  intro y
  induction y using Nat.strongRecOn with
  | ind y ih =>
    intro x n hx hy hn
    obtain ⟨n, rfl⟩ : ∃ k, n = k + 1 := ⟨n - 1, by omega⟩
    rw [f_X12_common_b4]
    by_cases c : y = 0
    · subst c
      rw [if_pos (by rfl), Nat.gcd_zero_right]
      rfl
    · have z0 : ¬ nI y = 0 := fun q => c ((mh_eqr (b := 0) 0 rfl (by omega) (by omega)).mp q)
      have e : mh_irem (nI x) (nI y) = nI (x % y) := pk_rem hx (by omega) hy
      have hr := Nat.mod_lt x (show 0 < y by omega)
      rw [if_neg z0, mh_nz_eq z0, mh_nm_eq, e, ih (x % y) hr y n hy (by omega) (by omega), Nat.gcd_comm x y, Nat.gcd_rec y x, Nat.gcd_comm]
theorem mh_r_divisorOf (hR : mh_RI h bd σ F) {p : Nat} (hp : p < 8) : f_X12_divisorOf_e (bd 0) (nI p) h = some (nI (mh_gd (mh_mi σ p) 0), h) := by
  obtain ⟨g, hg, hw⟩ := hR.2 1 (by omega)
  obtain ⟨w1, w2, w3, w4, _⟩ := hw p hp
  have hl := w1.1.1
  have ho := hR.ob
  obtain ⟨cs, ecs⟩ : ∃ cs, cs = mh_mi σ p := ⟨_, rfl⟩
  rw [← ecs] at w1 w3 w4 hl ⊢
  have gb : ∀ i, mh_gd (cs.take i) 0 ≤ 300 := fun i => mh_gd_b (mh_ms_sub w1 (List.take_sublist _ _))
  have key := mh_wh (fun m (q : Nat) => f_X12_divisorOf_b4 m (bd 0) (nI p) (nI (mh_gd (cs.take q) 0)) (nI (q + 1)) h) (fun (r : Nat) => some (nI r, h)) (fun q => q ≤ cs.length) (fun q => cs.length - q) (fun r => r = mh_gd cs 0)
    (fun m q hq => by
      show (∃ s', _ ∧ _ ∧ f_X12_divisorOf_b4 (m + 1) (bd 0) (nI p) (nI (mh_gd (cs.take q) 0)) (nI (q + 1)) h = _) ∨ ∃ r, _ ∧ f_X12_divisorOf_b4 (m + 1) (bd 0) (nI p) (nI (mh_gd (cs.take q) 0)) (nI (q + 1)) h = _
      rw [f_X12_divisorOf_b4, mh_gR_eq (k := 1) ho rfl, Option.bind_some, mh_b2_eq mh_r_mintAt, mh_aI_eq hg (show 13 * p < 304 by omega) (by omega), Option.bind_some, w3]
      by_cases c : q < cs.length
      · left
        have cb := w1.1.get c
        have e1 : nI (13 * p) + nI (q + 1) = nI (13 * p + 1 + q) := by rw [nI_add]; congr 1; omega
        have gq := gb q
        have gc : f_X12_common_e (nI (cs.getD q 0)) (nI (mh_gd (cs.take q) 0)) h = some (nI (mh_gd (cs.take (q + 1)) 0), h) := by
          rw [mh_gd_take c]
          exact mh_r_common _ _ _ (by omega) (by omega) (mh_fuel _ (by omega))
        refine ⟨q + 1, c, by omega, ?_⟩
        rw [if_neg (fun q => absurd ((nI_ltI (by omega) (by omega)).mp q) (by omega)), mh_gR_eq (k := 1) ho rfl, Option.bind_some, mh_b2_eq mh_r_mintAt, e1, mh_aI_eq hg (show 13 * p + 1 + q < 304 by omega) (by omega), Option.bind_some, w4 q c, mh_b2_eq gc, mh_nm_eq, mh_inc]
      · right
        have e : q = cs.length := by omega
        subst e
        exact ⟨mh_gd cs 0, rfl, by rw [if_pos ((nI_ltI (by omega) (by omega)).mpr (by omega)), List.take_length]; rfl⟩)
    12 mh_fu 0 (by omega) (Nat.zero_le _) (mh_fuel _ (by omega))
  obtain ⟨r, z1, z2⟩ := key
  subst z1
  unfold f_X12_divisorOf_e
  rw [mh_nm_eq, mh_nm_eq]
  exact z2
theorem mh_M_divisor (hR : mh_RI h bd σ F) (x1 : Int32) : ∃ r v h' F', f_X12_divisor_e (bd 0) x1 h = some (v, h') ∧ mh_Qm σ x1 (fun cs r => r = .inr (nI (mh_gd cs 0))) r ∧ mh_an r v F' ∧ mh_RI h' bd σ F' ∧ mh_frR bd h h' := by
  obtain ⟨h1, F1, p1, R1, z1, f1⟩ := mh_r_code hR
  unfold f_X12_divisor_e
  rw [p1, Option.bind_some]
  rcases mh_r_isMint (h := h1) x1 with ⟨p, a1, a2, a3⟩ | ⟨a1, a3⟩
  · subst a2
    rw [mh_b2_eq a3, if_neg (by decide), mh_cal_eq R1.ob, mh_b2_eq (mh_r_divisorOf R1 a1)]
    exact ⟨_, _, h1, F1, rfl, Or.inr ⟨p, a1, rfl, rfl⟩, Or.inl ⟨rfl, z1⟩, R1, f1⟩
  · obtain ⟨h2, F2, y1, R2, z2, f2⟩ := mh_r_fl R1 1 (fun v12 h11 => some (v12, h11))
    have y1 : mh_b2 (mh_cal h1 (bd 0) 12 (f_X12_fail_e (bd 0) (1 : Int32) h1)) _ = _ := y1
    rw [mh_b2_eq a3, if_pos rfl, y1]
    exact ⟨.inl 1, _, h2, F2, rfl, Or.inl ⟨a1, rfl⟩, Or.inr ⟨1, rfl, z2⟩, R2, f1.trans f2⟩
theorem mh_r_isPaid {cs : List Nat} (ho : h (bd 0) = some (.inr (12, mh_rf bd F))) (hT : mh_Tb h bd F cs) (hm : mh_ms cs) {s : Nat} (hs : s ≤ 100300) : (mh_py cs s ∧ f_X12_isPaid_e (bd 0) (nI s) h = some (1, h)) ∨ (¬ mh_py cs s ∧ f_X12_isPaid_e (bd 0) (nI s) h = some (0, h)) := by
  obtain ⟨h7, fb, G, t1, t2, t3, t4, t5⟩ := hT
  have hl := hm.1.1
  have eG : G cs.length s = nI (mh_nv (mh_mn cs s)) := by rw [t5 _ (Nat.le_refl _) s hs, List.take_length]
  unfold f_X12_isPaid_e
  rw [mh_gR_eq (k := 8) ho rfl, Option.bind_some, mh_gI_eq (k := 7) ho rfl, Option.bind_some, h7, mh_aR_eq t2 (show cs.length < 13 by omega) (by omega) rfl, Option.bind_some, mh_aI_eq (t3 cs.length (by omega)) (show s < 100301 by omega) (by omega), Option.bind_some, eG]
  cases hv : mh_mn cs s with
  | none =>
    right
    exact ⟨mh_mn_none.mp hv, by rw [if_pos (by decide)]; rfl⟩
  | some n =>
    left
    have nb := mh_mn_b (fun x hx => (hm.1.2 x hx).1) hv
    refine ⟨mh_mn_py hv, ?_⟩
    have en : mh_nv (some n) = n := rfl
    rw [en, if_neg (fun q => absurd ((mh_lel (a := 536870912) 536870912 rfl (by omega) (by omega)).mp q) (by omega))]
    rfl
theorem mh_r_gaps {cs : List Nat} (ho : h (bd 0) = some (.inr (12, mh_rf bd F))) (hT : mh_Tb h bd F cs) (hm : mh_ms cs) : f_X12_gaps_e (bd 0) h = some (nI (mh_cn (fun s => ¬ mh_py cs s) 100301), h) := by
  have key := mh_wh (fun m (s : Nat) => f_X12_gaps_b4 m (bd 0) (nI (mh_cn (fun s => ¬ mh_py cs s) s)) (nI s) h) (fun (r : Nat) => some (nI r, h)) (fun s => s ≤ 100301) (fun s => 100301 - s) (fun r => r = mh_cn (fun s => ¬ mh_py cs s) 100301)
    (fun m s hs => by
      show (∃ s', _ ∧ _ ∧ f_X12_gaps_b4 (m + 1) (bd 0) (nI (mh_cn (fun s => ¬ mh_py cs s) s)) (nI s) h = _) ∨ ∃ r, _ ∧ f_X12_gaps_b4 (m + 1) (bd 0) (nI (mh_cn (fun s => ¬ mh_py cs s) s)) (nI s) h = _
      rw [f_X12_gaps_b4]
      by_cases hlt : s ≤ 100300
      · left
        refine ⟨s + 1, by omega, by omega, ?_⟩
        rw [if_neg (fun q => absurd ((mh_ltl (a := 100300) 100300 rfl (by omega) (by omega)).mp q) (by omega)), mh_cal_eq ho]
        rcases mh_r_isPaid ho hT hm hlt with ⟨q1, q2⟩ | ⟨q1, q2⟩
        · rw [mh_b2_eq q2, if_neg (by decide), mh_cn_n (P := fun s => ¬ mh_py cs s) (fun c => c q1)]
          unfold f_X12_gaps_b24
          rw [mh_nm_eq, mh_nm_eq, mh_inc, Int32.add_zero]
        · rw [mh_b2_eq q2, if_pos rfl, mh_cn_y (P := fun s => ¬ mh_py cs s) q1]
          unfold f_X12_gaps_b24
          rw [mh_nm_eq, mh_nm_eq, mh_inc, nI_1]
      · right
        have e : s = 100301 := by omega
        subst e
        exact ⟨_, rfl, by rw [if_pos ((mh_ltl (a := 100300) 100300 rfl (by omega) (by omega)).mpr (by omega))]; rfl⟩)
    100301 mh_fu 1 (by omega) (by omega) (mh_fuel _ (by omega))
  obtain ⟨r, z1, z2⟩ := key
  subst z1
  have e0 : mh_cn (fun s => ¬ mh_py cs s) 1 = 0 := mh_cn_n (P := fun s => ¬ mh_py cs s) (n := 0) (fun c => c (mh_py0 cs))
  rw [e0] at z2
  unfold f_X12_gaps_e
  rw [mh_nm_eq, mh_nm_eq]
  exact z2
theorem mh_M_many (hR : mh_RI h bd σ F) (x1 : Int32) : ∃ r v h' F', f_X12_many_e (bd 0) x1 h = some (v, h') ∧ mh_Qm σ x1 mh_Bmany r ∧ mh_an r v F' ∧ mh_RI h' bd σ F' ∧ mh_frR bd h h' := by
  obtain ⟨h1, F1, p1, R1, z1, f1⟩ := mh_r_code hR
  unfold f_X12_many_e
  rw [p1, Option.bind_some]
  rcases mh_r_isMint (h := h1) x1 with ⟨p, a1, a2, a3⟩ | ⟨a1, a3⟩
  · subst a2
    obtain ⟨h2, F2, y1, R2, z2, T2, f2⟩ := mh_r_table R1 a1
    obtain ⟨g, hg, hw⟩ := R1.2 1 (by omega)
    have w1 := (hw p a1).1
    have gb := mh_gd_b w1
    rw [mh_b2_eq a3, if_neg (by decide), mh_cal_eq R1.ob, y1, Option.bind_some, mh_cal_eq R2.ob, mh_b2_eq (mh_r_divisorOf R2 a1)]
    by_cases c : mh_gd (mh_mi σ p) 0 = 1
    · have cl := mh_cn_le (fun s => ¬ mh_py (mh_mi σ p) s) 100301
      rw [if_pos (by rw [c]; rfl), mh_cal_eq R2.ob, mh_b2_eq (mh_r_gaps R2.ob T2 w1), nI_l (by omega)]
      exact ⟨_, _, h2, F2, rfl, Or.inr ⟨p, a1, rfl, Or.inl ⟨c, rfl⟩⟩, Or.inl ⟨rfl, z2.trans z1⟩, R2, f1.trans f2⟩
    · rw [if_neg (fun q => c ((mh_eqr (b := 1) 1 rfl (by omega) (by omega)).mp q))]
      exact ⟨_, _, h2, F2, rfl, Or.inr ⟨p, a1, rfl, Or.inr ⟨c, rfl⟩⟩, Or.inl ⟨rfl, z2.trans z1⟩, R2, f1.trans f2⟩
  · obtain ⟨h2, F2, y1, R2, z2, f2⟩ := mh_r_fl R1 1 (fun v12 h11 => some ((v12).toInt64, h11))
    have y1 : mh_b2 (mh_cal h1 (bd 0) 12 (f_X12_fail_e (bd 0) (1 : Int32) h1)) _ = _ := y1
    rw [mh_b2_eq a3, if_pos rfl, y1]
    exact ⟨.inl 1, _, h2, F2, rfl, Or.inl ⟨a1, rfl⟩, Or.inr ⟨1, rfl, z2⟩, R2, f1.trans f2⟩
theorem mh_r_lastGap {cs : List Nat} (ho : h (bd 0) = some (.inr (12, mh_rf bd F))) (hT : mh_Tb h bd F cs) (hm : mh_ms cs) : ∃ z, f_X12_lastGap_e (bd 0) h = some (z, h) ∧ (((∀ s, s ≤ 100300 → mh_py cs s) ∧ z = -1) ∨ ∃ s, s ≤ 100300 ∧ ¬ mh_py cs s ∧ (∀ t, s < t → t ≤ 100300 → mh_py cs t) ∧ z = nI s) := by
  have key := mh_wh (fun m (q : Nat × Int32) => f_X12_lastGap_b4 m (bd 0) q.2 (nI q.1) h) (fun (r : Int32) => some (r, h)) (fun q => q.1 ≤ 100301 ∧ (((∀ s, s < q.1 → mh_py cs s) ∧ q.2 = -1) ∨ ∃ s, s < q.1 ∧ ¬ mh_py cs s ∧ (∀ t, s < t → t < q.1 → mh_py cs t) ∧ q.2 = nI s)) (fun q => 100301 - q.1) (fun z => ((∀ s, s ≤ 100300 → mh_py cs s) ∧ z = -1) ∨ ∃ s, s ≤ 100300 ∧ ¬ mh_py cs s ∧ (∀ t, s < t → t ≤ 100300 → mh_py cs t) ∧ z = nI s)
    (fun m q hq => by
      obtain ⟨s, z⟩ := q
      obtain ⟨q1, q2⟩ := hq
      have q1 : s ≤ 100301 := q1
      have q2 : ((∀ t, t < s → mh_py cs t) ∧ z = -1) ∨ ∃ u, u < s ∧ ¬ mh_py cs u ∧ (∀ t, u < t → t < s → mh_py cs t) ∧ z = nI u := q2
      show (∃ s', _ ∧ _ ∧ f_X12_lastGap_b4 (m + 1) (bd 0) z (nI s) h = _) ∨ ∃ r, _ ∧ f_X12_lastGap_b4 (m + 1) (bd 0) z (nI s) h = _
      rw [f_X12_lastGap_b4]
      by_cases hlt : s ≤ 100300
      · left
        rw [if_neg (fun q => absurd ((mh_ltl (a := 100300) 100300 rfl (by omega) (by omega)).mp q) (by omega)), mh_cal_eq ho]
        rcases mh_r_isPaid ho hT hm hlt with ⟨c1, c2⟩ | ⟨c1, c2⟩
        · refine ⟨(s + 1, z), ⟨by show s + 1 ≤ 100301; omega, ?_⟩, by show 100301 - (s + 1) < 100301 - s; omega, ?_⟩
          · rcases q2 with ⟨r1, r2⟩ | ⟨u, r1, r2, r3, r4⟩
            · refine Or.inl ⟨fun t ht => ?_, r2⟩
              have ht : t < s + 1 := ht
              by_cases e : t = s
              · rw [e]; exact c1
              · exact r1 t (by omega)
            · refine Or.inr ⟨u, by show u < s + 1; omega, r2, fun t t1 ht => ?_, r4⟩
              have ht : t < s + 1 := ht
              by_cases e : t = s
              · rw [e]; exact c1
              · exact r3 t t1 (by omega)
          · rw [mh_b2_eq c2, if_neg (by decide)]
            unfold f_X12_lastGap_b20
            rw [mh_nm_eq, mh_inc]
        · refine ⟨(s + 1, nI s), ⟨by show s + 1 ≤ 100301; omega, Or.inr ⟨s, by show s < s + 1; omega, c1, fun t t1 t2 => ?_, rfl⟩⟩, by show 100301 - (s + 1) < 100301 - s; omega, ?_⟩
          · have t2 : t < s + 1 := t2
            omega
          · rw [mh_b2_eq c2, if_pos rfl]
            unfold f_X12_lastGap_b20
            rw [mh_nm_eq, mh_inc]
      · right
        have e : s = 100301 := by omega
        subst e
        refine ⟨z, ?_, by rw [if_pos ((mh_ltl (a := 100300) 100300 rfl (by omega) (by omega)).mpr (by omega))]; rfl⟩
        rcases q2 with ⟨r1, r2⟩ | ⟨u, r1, r2, r3, r4⟩
        · exact Or.inl ⟨fun t ht => r1 t (by omega), r2⟩
        · exact Or.inr ⟨u, by omega, r2, fun t t1 t2 => r3 t t1 (by omega), r4⟩)
    100301 mh_fu (1, -1) (by show 100301 - 1 ≤ 100301; omega) ⟨by show 1 ≤ 100301; omega, Or.inl ⟨fun t ht => by
      have ht : t < 1 := ht
      rw [show t = 0 by omega]
      exact mh_py0 cs, rfl⟩⟩ (mh_fuel _ (by omega))
  obtain ⟨z, z1, z2⟩ := key
  refine ⟨z, ?_, z1⟩
  unfold f_X12_lastGap_e
  rw [mh_nm_eq, mh_nm_eq]
  exact z2
theorem mh_r_lastGap1 {cs : List Nat} (ho : h (bd 0) = some (.inr (12, mh_rf bd F))) (hT : mh_Tb h bd F cs) (hm : mh_ms cs) (hg : mh_gd cs 0 = 1) : ∃ z, f_X12_lastGap_e (bd 0) h = some (z, h) ∧ mh_lg cs z := by
  obtain ⟨z, z1, z2⟩ := mh_r_lastGap ho hT hm
  have big : ∀ s, 89700 ≤ s → mh_py cs s := fun s hs => mh_big hm (mh_gd_ne hg) (by rw [hg]; exact Nat.one_dvd s) hs
  refine ⟨z, z1, ?_⟩
  rcases z2 with ⟨r1, r2⟩ | ⟨u, r1, r2, r3, r4⟩
  · refine Or.inl ⟨fun s => ?_, r2⟩
    by_cases c : s ≤ 100300
    · exact r1 s c
    · exact big s (by omega)
  · refine Or.inr ⟨u, ?_, r2, fun t ht => ?_, r4⟩
    · refine Nat.lt_of_not_le (fun q => r2 (big u (by omega)))
    · by_cases c : t ≤ 100300
      · exact r3 t ht c
      · exact big t (by omega)
theorem mh_M_last (hR : mh_RI h bd σ F) (x1 : Int32) : ∃ r v h' F', f_X12_last_e (bd 0) x1 h = some (v, h') ∧ mh_Qm σ x1 (fun cs r => ∃ z, mh_Blast cs z ∧ r = .inr z) r ∧ mh_an r v F' ∧ mh_RI h' bd σ F' ∧ mh_frR bd h h' := by
  obtain ⟨h1, F1, p1, R1, z1, f1⟩ := mh_r_code hR
  unfold f_X12_last_e
  rw [p1, Option.bind_some]
  rcases mh_r_isMint (h := h1) x1 with ⟨p, a1, a2, a3⟩ | ⟨a1, a3⟩
  · subst a2
    obtain ⟨h2, F2, y1, R2, z2, T2, f2⟩ := mh_r_table R1 a1
    obtain ⟨g, hg, hw⟩ := R1.2 1 (by omega)
    have w1 := (hw p a1).1
    have gb := mh_gd_b w1
    rw [mh_b2_eq a3, if_neg (by decide), mh_cal_eq R1.ob, y1, Option.bind_some, mh_cal_eq R2.ob, mh_b2_eq (mh_r_divisorOf R2 a1)]
    by_cases c : mh_gd (mh_mi σ p) 0 = 1
    · obtain ⟨z, u1, u2⟩ := mh_r_lastGap1 R2.ob T2 w1 c
      rw [if_pos (by rw [c]; rfl), mh_cal_eq R2.ob, mh_b2_eq u1]
      exact ⟨_, _, h2, F2, rfl, Or.inr ⟨p, a1, rfl, z, Or.inl ⟨c, u2⟩, rfl⟩, Or.inl ⟨rfl, z2.trans z1⟩, R2, f1.trans f2⟩
    · rw [if_neg (fun q => c ((mh_eqr (b := 1) 1 rfl (by omega) (by omega)).mp q))]
      exact ⟨_, _, h2, F2, rfl, Or.inr ⟨p, a1, rfl, -2, Or.inr ⟨c, rfl⟩, rfl⟩, Or.inl ⟨rfl, z2.trans z1⟩, R2, f1.trans f2⟩
  · obtain ⟨h2, F2, y1, R2, z2, f2⟩ := mh_r_fl R1 1 (fun v12 h11 => some (v12, h11))
    have y1 : mh_b2 (mh_cal h1 (bd 0) 12 (f_X12_fail_e (bd 0) (1 : Int32) h1)) _ = _ := y1
    rw [mh_b2_eq a3, if_pos rfl, y1]
    exact ⟨.inl 1, _, h2, F2, rfl, Or.inl ⟨a1, rfl⟩, Or.inr ⟨1, rfl, z2⟩, R2, f1.trans f2⟩
end MhModelG
