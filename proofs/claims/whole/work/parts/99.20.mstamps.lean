theorem mh_up2_b {cs : List Nat} {H s : Nat} (hb : ∀ x, x ∈ cs → x ≤ 300) (h : ∀ x, x ≤ s → ∃ n, mh_mn cs x = some n ∧ n ≤ H) : s ≤ H * 300 := by
  obtain ⟨n, e1, e2⟩ := h s (Nat.le_refl _)
  exact Nat.le_trans (mh_pay_max hb (mh_mn_pay e1)) (Nat.mul_le_mul_right 300 e2)
section MhModelSt
variable {h : mh_H} {bd : Nat → Nat} {σ : mh_Sg} {F : Nat → Int32}
theorem mh_r_stamps {cs : List Nat} (ho : h (bd 0) = some (.inr (12, mh_rf bd F))) (hT : mh_Tb h bd F cs) (hm : mh_ms cs) {H : Nat} (hH : H ≤ 50) : ∃ s, f_X12_stamps_b42 mh_fu (bd 0) (nI H) 0 h = some (nI s, h) ∧ mh_up2 cs H s := by
  obtain ⟨h7, fb, G, t1, t2, t3, t4, t5⟩ := hT
  have hl := hm.1.1
  have b3 : ∀ x, x ∈ cs → x ≤ 300 := fun x hx => (hm.1.2 x hx).2
  have hp : ∀ x, x ∈ cs → 1 ≤ x := fun x hx => (hm.1.2 x hx).1
  have key := mh_wh (fun m (s : Nat) => f_X12_stamps_b42 m (bd 0) (nI H) (nI s) h) (fun (s : Nat) => some (nI s, h)) (fun s => ∀ x, x ≤ s → ∃ n, mh_mn cs x = some n ∧ n ≤ H) (fun s => 15001 - s) (fun s => mh_up2 cs H s)
    (fun m s hs => by
      have sb := mh_up2_b b3 hs
      have := Nat.mul_le_mul_right 300 hH
      show (∃ s', _ ∧ _ ∧ f_X12_stamps_b42 (m + 1) (bd 0) (nI H) (nI s) h = _) ∨ ∃ r, _ ∧ f_X12_stamps_b42 (m + 1) (bd 0) (nI H) (nI s) h = _
      have eG : G cs.length (s + 1) = nI (mh_nv (mh_mn cs (s + 1))) := by rw [t5 _ (Nat.le_refl _) _ (by omega), List.take_length]
      have nl := mh_nv_le hp (show s + 1 ≤ 100300 by omega)
      rw [f_X12_stamps_b42, mh_gR_eq (k := 8) ho rfl, Option.bind_some, mh_gI_eq (k := 7) ho rfl, Option.bind_some, h7, mh_aR_eq t2 (show cs.length < 13 by omega) (by omega) rfl, Option.bind_some, nI_1, mh_aI_eq (t3 cs.length (by omega)) (show s + 1 < 100301 by omega) (by omega), Option.bind_some, eG]
      by_cases c : H < mh_nv (mh_mn cs (s + 1))
      · right
        refine ⟨s, ⟨hs, fun q => ?_⟩, by rw [if_pos ((nI_ltI (by omega) (by omega)).mpr c)]; rfl⟩
        obtain ⟨n, n1, n2⟩ := q
        rw [n1] at c
        have c : H < n := c
        omega
      · left
        refine ⟨s + 1, fun x hx => ?_, by omega, by rw [if_neg (fun q => c ((nI_ltI (by omega) (by omega)).mp q)), mh_nm_eq, mh_inc]⟩
        by_cases e : x = s + 1
        · subst e
          cases hv : mh_mn cs (s + 1) with
          | none =>
            rw [hv] at c
            have c : ¬ H < 536870912 := c
            omega
          | some n =>
            rw [hv] at c
            have c : ¬ H < n := c
            exact ⟨n, rfl, by omega⟩
        · exact hs x (by omega))
    15001 mh_fu 0 (by omega) (fun x hx => by rw [Nat.le_zero.mp hx]; exact ⟨0, mh_mn0 cs, Nat.zero_le _⟩) (mh_fuel _ (by omega))
  obtain ⟨s, z1, z2⟩ := key
  exact ⟨s, z2, z1⟩
theorem mh_M_stamps (hR : mh_RI h bd σ F) (x1 x2 : Int32) : ∃ r v h' F', f_X12_stamps_e (bd 0) x1 x2 h = some (v, h') ∧ mh_Qm σ x1 (mh_Bst x2) r ∧ mh_an r v F' ∧ mh_RI h' bd σ F' ∧ mh_frR bd h h' := by
  obtain ⟨h1, F1, p1, R1, z1, f1⟩ := mh_r_code hR
  unfold f_X12_stamps_e
  rw [p1, Option.bind_some]
  rcases mh_r_isMint (h := h1) x1 with ⟨p, a1, a2, a3⟩ | ⟨a1, a3⟩
  · subst a2
    rw [mh_b2_eq a3, if_neg (by decide)]
    have bad : (∀ H, 1 ≤ H → H ≤ 50 → x2 ≠ nI H) → ∃ r v h' F', f_X12_stamps_b29 (bd 0) h1 = some (v, h') ∧ mh_Qm σ (nI p) (mh_Bst x2) r ∧ mh_an r v F' ∧ mh_RI h' bd σ F' ∧ mh_frR bd h h' := fun hb => by
      obtain ⟨h2, F2, y1, R2, z2, f2⟩ := mh_r_fl R1 2 (fun v12 h11 => some (v12, h11))
      exact ⟨.inl 2, _, h2, F2, y1, Or.inr ⟨p, a1, rfl, Or.inr ⟨hb, rfl⟩⟩, Or.inr ⟨2, rfl, z2⟩, R2, f1.trans f2⟩
    rcases mh_sgn x2 with ⟨q1, q2⟩ | ⟨q1, H, q2, q3⟩
    · rw [if_pos (Int32.lt_trans q1 (by decide))]
      exact bad (fun s _ hs => q2 s (by omega))
    · subst q3
      by_cases d0 : H < 1
      · rw [if_pos ((mh_ltr (b := 1) 1 rfl (by omega) (by omega)).mpr d0)]
        refine bad (fun e e1 e2 q => ?_)
        have := (nI_eq (by omega) (by omega)).mp q
        omega
      · rw [if_neg (fun q => d0 ((mh_ltr (b := 1) 1 rfl (by omega) (by omega)).mp q))]
        by_cases d3 : H ≤ 50
        · obtain ⟨h2, F2, y1, R2, z2, T2, f2⟩ := mh_r_table R1 a1
          obtain ⟨s, u1, u2⟩ := mh_r_stamps R2.ob T2 (mh_r_ms R1 a1) d3
          rw [if_pos ((mh_ler (b := 50) 50 rfl (by omega) (by omega)).mpr d3), mh_cal_eq R1.ob, y1, Option.bind_some, mh_nm_eq, u1]
          exact ⟨_, _, h2, F2, rfl, Or.inr ⟨p, a1, rfl, Or.inl ⟨H, by omega, d3, rfl, s, u2, rfl⟩⟩, Or.inl ⟨rfl, z2.trans z1⟩, R2, f1.trans f2⟩
        · rw [if_neg (fun q => d3 ((mh_ler (b := 50) 50 rfl (by omega) (by omega)).mp q))]
          refine bad (fun e e1 e2 q => ?_)
          have := (nI_eq (by omega) (by omega)).mp q
          omega
  · obtain ⟨h2, F2, y1, R2, z2, f2⟩ := mh_r_fl R1 1 (fun v12 h11 => some (v12, h11))
    have y1 : mh_b2 (mh_cal h1 (bd 0) 12 (f_X12_fail_e (bd 0) (1 : Int32) h1)) _ = _ := y1
    rw [mh_b2_eq a3, if_pos rfl, y1]
    exact ⟨.inl 1, _, h2, F2, rfl, Or.inl ⟨a1, rfl⟩, Or.inr ⟨1, rfl, z2⟩, R2, f1.trans f2⟩
theorem mh_r_span {cs : List Nat} (ho : h (bd 0) = some (.inr (12, mh_rf bd F))) (hT : mh_Tb h bd F cs) (hm : mh_ms cs) {a b : Nat} (hab : a ≤ b) (hb : b ≤ 100000) : ∃ z, f_X12_span_b52 mh_fu (bd 0) (nI b) 0 (nI a) h = some (z, h) ∧ mh_spn cs a b z := by
  have hT0 := hT
  obtain ⟨h7, fb, G, t1, t2, t3, t4, t5⟩ := hT
  have hl := hm.1.1
  have hp : ∀ x, x ∈ cs → 1 ≤ x := fun x hx => (hm.1.2 x hx).1
  have key := mh_wh (fun m (k : Nat) => f_X12_span_b52 m (bd 0) (nI b) (lN (mh_sumr (fun i => mh_F cs (a + i)) k)) (nI (a + k)) h) (fun (z : Int64) => some (z, h)) (fun k => k ≤ b + 1 - a ∧ ∀ s, a ≤ s → s < a + k → mh_mn cs s ≠ none) (fun k => b + 1 - a - k) (fun z => mh_spn cs a b z)
    (fun m k hk => by
      obtain ⟨q1, q2⟩ := hk
      show (∃ s', _ ∧ _ ∧ f_X12_span_b52 (m + 1) (bd 0) (nI b) (lN (mh_sumr (fun i => mh_F cs (a + i)) k)) (nI (a + k)) h = _) ∨ ∃ r, _ ∧ f_X12_span_b52 (m + 1) (bd 0) (nI b) (lN (mh_sumr (fun i => mh_F cs (a + i)) k)) (nI (a + k)) h = _
      rw [f_X12_span_b52]
      by_cases c : a + k ≤ b
      · have eG : G cs.length (a + k) = nI (mh_nv (mh_mn cs (a + k))) := by rw [t5 _ (Nat.le_refl _) _ (by omega), List.take_length]
        rw [if_neg (fun q => absurd ((nI_ltI (by omega) (by omega)).mp q) (by omega)), mh_cal_eq ho]
        rcases mh_r_isPaid ho hT0 hm (show a + k ≤ 100300 by omega) with ⟨c1, c2⟩ | ⟨c1, c2⟩
        · left
          obtain ⟨n, hn⟩ := mh_mn_ex c1
          have nb := mh_mn_b hp hn
          have eF : mh_F cs (a + k) = n := by unfold mh_F; rw [hn]; rfl
          have en : mh_nv (some n) = n := rfl
          refine ⟨k + 1, ⟨by omega, fun s s1 s2 => ?_⟩, by omega, ?_⟩
          · by_cases e : s = a + k
            · rw [e, hn]; simp
            · exact q2 s s1 (by omega)
          · rw [mh_b2_eq c2, if_neg (by decide), mh_gR_eq (k := 8) ho rfl, Option.bind_some, mh_gI_eq (k := 7) ho rfl, Option.bind_some, h7, mh_aR_eq t2 (show cs.length < 13 by omega) (by omega) rfl, Option.bind_some, mh_aI_eq (t3 cs.length (by omega)) (show a + k < 100301 by omega) (by omega), Option.bind_some, eG, hn, en, nI_l (by omega), lN_add, mh_nm_eq, mh_nm_eq, mh_inc]
            show _ = f_X12_span_b52 m (bd 0) (nI b) (lN (mh_sumr (fun i => mh_F cs (a + i)) k + mh_F cs (a + k))) (nI (a + (k + 1))) h
            rw [eF]
            rfl
        · right
          exact ⟨-1, Or.inl ⟨⟨a + k, by omega, c, mh_mn_none.mpr c1⟩, rfl⟩, by rw [mh_b2_eq c2, if_pos rfl]; rfl⟩
      · right
        have e : k = b + 1 - a := by omega
        refine ⟨_, Or.inr ⟨fun s s1 s2 => q2 s s1 (by omega), rfl⟩, ?_⟩
        rw [if_pos ((nI_ltI (by omega) (by omega)).mpr (by omega)), e]
        rfl)
    100001 mh_fu 0 (by omega) ⟨Nat.zero_le _, fun s s1 s2 => by omega⟩ (mh_fuel _ (by omega))
  obtain ⟨z, z1, z2⟩ := key
  exact ⟨z, z2, z1⟩
theorem mh_M_span (hR : mh_RI h bd σ F) (x1 x2 x3 : Int32) : ∃ r v h' F', f_X12_span_e (bd 0) x1 x2 x3 h = some (v, h') ∧ mh_Qm σ x1 (mh_Bsp x2 x3) r ∧ mh_an r v F' ∧ mh_RI h' bd σ F' ∧ mh_frR bd h h' := by
  obtain ⟨h1, F1, p1, R1, z1, f1⟩ := mh_r_code hR
  unfold f_X12_span_e
  rw [p1, Option.bind_some]
  rcases mh_r_isMint (h := h1) x1 with ⟨p, a1, a2, a3⟩ | ⟨a1, a3⟩
  · subst a2
    rw [mh_b2_eq a3, if_neg (by decide)]
    have bad : (∀ a b, a ≤ b → b ≤ 100000 → ¬ (x2 = nI a ∧ x3 = nI b)) → ∃ r v h' F', f_X12_span_b34 (bd 0) h1 = some (v, h') ∧ mh_Qm σ (nI p) (mh_Bsp x2 x3) r ∧ mh_an r v F' ∧ mh_RI h' bd σ F' ∧ mh_frR bd h h' := fun hb => by
      obtain ⟨h2, F2, y1, R2, z2, f2⟩ := mh_r_fl R1 2 (fun v12 h11 => some ((v12).toInt64, h11))
      exact ⟨.inl 2, _, h2, F2, y1, Or.inr ⟨p, a1, rfl, Or.inr ⟨hb, rfl⟩⟩, Or.inr ⟨2, rfl, z2⟩, R2, f1.trans f2⟩
    by_cases c1 : x2 < 0
    · rw [if_pos c1]
      refine bad (fun a b ab bb e => ?_)
      rw [e.1] at c1
      exact nI_pos (by omega) c1
    · rw [if_neg c1]
      obtain ⟨a, a1', a2⟩ := nI_of c1
      subst a2
      by_cases c2 : x3 < nI a
      · rw [if_pos c2]
        refine bad (fun a' b ab bb e => ?_)
        have e1 := (nI_eq a1' (by omega)).mp e.1
        rw [e.2] at c2
        have := (nI_ltI (by omega) a1').mp c2
        omega
      · rw [if_neg c2]
        have n3 : ¬ x3 < 0 := fun q => c2 (Int32.lt_of_lt_of_le q (nI_pos' a1'))
        obtain ⟨b, b1, b2⟩ := nI_of n3
        subst b2
        have hab : a ≤ b := Nat.le_of_not_lt (fun q => c2 ((nI_ltI b1 a1').mpr q))
        by_cases c3 : b ≤ 100000
        · obtain ⟨h2, F2, y1, R2, z2, T2, f2⟩ := mh_r_table R1 a1
          obtain ⟨z, u1, u2⟩ := mh_r_span R2.ob T2 (mh_r_ms R1 a1) hab c3
          rw [if_pos ((mh_ler (b := 100000) 100000 rfl b1 (by omega)).mpr c3), mh_cal_eq R1.ob, y1, Option.bind_some, mh_nm_eq, u1]
          exact ⟨_, _, h2, F2, rfl, Or.inr ⟨p, a1, rfl, Or.inl ⟨a, b, hab, c3, rfl, rfl, z, u2, rfl⟩⟩, Or.inl ⟨rfl, z2.trans z1⟩, R2, f1.trans f2⟩
        · rw [if_neg (fun q => c3 ((mh_ler (b := 100000) 100000 rfl b1 (by omega)).mp q))]
          refine bad (fun a' b' ab bb e => ?_)
          have e1 := (nI_eq b1 (by omega)).mp e.2
          omega
  · obtain ⟨h2, F2, y1, R2, z2, f2⟩ := mh_r_fl R1 1 (fun v12 h11 => some ((v12).toInt64, h11))
    have y1 : mh_b2 (mh_cal h1 (bd 0) 12 (f_X12_fail_e (bd 0) (1 : Int32) h1)) _ = _ := y1
    rw [mh_b2_eq a3, if_pos rfl, y1]
    exact ⟨.inl 1, _, h2, F2, rfl, Or.inl ⟨a1, rfl⟩, Or.inr ⟨1, rfl, z2⟩, R2, f1.trans f2⟩
/-- the least of what the first i coins lead to, as a number -/
def mh_lv (b : List Nat) (s i v : Nat) : Prop := (v ≤ 536870912) ∧ (∀ j, j < i → b.getD j 0 ≤ s → v ≤ mh_nv (mh_mn b (s - b.getD j 0)) + 1) ∧ (v = 536870912 ∨ ∃ j, j < i ∧ b.getD j 0 ≤ s ∧ v = mh_nv (mh_mn b (s - b.getD j 0)) + 1)
theorem mh_lv_end {b : List Nat} (hm : mh_ms b) {s v : Nat} (hs : 0 < s) (h9 : s ≤ 100300) (h : mh_lv b s b.length v) : v = mh_nv (mh_mn b s) := by
  obtain ⟨h0, h1, h2⟩ := h
  have hp : ∀ x, x ∈ b → 1 ≤ x := fun x hx => (hm.1.2 x hx).1
  cases hn : mh_mn b s with
  | none =>
    rcases h2 with q | ⟨j, j1, j2, j3⟩
    · exact q
    · cases hk : mh_mn b (s - b.getD j 0) with
      | none =>
        rw [hk] at j3
        have j3 : v = 536870912 + 1 := j3
        omega
      | some k =>
        have := mh_pay_c (mh_get_mem j1) (mh_mn_pay hk)
        rw [Nat.sub_add_cancel j2] at this
        exact absurd ⟨_, this⟩ (mh_mn_none.mp hn)
  | some k =>
    show v = k
    have kb := mh_mn_b hp hn
    obtain ⟨c, m, q1, q2, q3, q4⟩ := mh_pay_inv (mh_mn_pay hn) hs
    obtain ⟨j, j1, j2⟩ := mh_mem_get q1
    obtain ⟨n, hn2⟩ := mh_mn_ex ⟨m, q4⟩
    have hnm := mh_mn_le hn2 q4
    have le := h1 j j1 (by omega)
    rw [j2, hn2] at le
    have le : v ≤ n + 1 := le
    rcases h2 with q | ⟨j', j1', j2', j3⟩
    · omega
    · cases hk : mh_mn b (s - b.getD j' 0) with
      | none =>
        rw [hk] at j3
        have j3 : v = 536870912 + 1 := j3
        omega
      | some k' =>
        rw [hk] at j3
        have j3 : v = k' + 1 := j3
        have := mh_pay_c (mh_get_mem j1') (mh_mn_pay hk)
        rw [Nat.sub_add_cancel j2'] at this
        have := mh_mn_le hn this
        omega
/-- the stamps of a trial -/
theorem mh_r_trial {b : List Nat} {fb fr : Nat → Int32} {H : Nat} (hI : mh_Inj bd 99) (ho : h (bd 0) = some (.inr (12, mh_rf bd F))) (h28 : F 28 = nI H) (hH : H ≤ 12) (hm : mh_ms b) (hl : b.length ≤ 6) (hb : h (bd 62) = some (.inl (0, 6, .inl fb))) (hbv : ∀ i, i < b.length → fb i = nI (b.getD i 0)) (hr : h (bd 64) = some (.inl (0, 3902, .inl fr))) : ∃ h' fr', f_X12_trialStamps_e (bd 0) (nI b.length) h = some (nI (mh_rh b H), h') ∧ h' (bd 64) = some (.inl (0, 3902, .inl fr')) ∧ mh_fr [bd 64] h h' ∧ mh_rh b H ≤ 3600 := by
  have b3 : ∀ x, x ∈ b → x ≤ 300 := fun x hx => (hm.1.2 x hx).2
  have hp : ∀ x, x ∈ b → 1 ≤ x := fun x hx => (hm.1.2 x hx).1
  obtain ⟨h0, e0⟩ : ∃ h0, h0 = mh_up h (bd 64) (.inl (0, 3902, .inl (upd fr 0 0))) := ⟨_, rfl⟩
  have s0 : mh_sI h (bd 64) (0 : Int32) (0 : Int32) = some h0 := by rw [e0]; exact mh_sI_eq (j := 0) hr (by omega) (by omega)
  have inner : ∀ (k11 : Nat → Int32 → Int32 → Int32 → mh_H → Option (Int32 × mh_H)) (hh : mh_H) (f : Nat → Int32) (s : Nat), mh_fr [bd 64] h hh → hh (bd 64) = some (.inl (0, 3902, .inl f)) → 0 < s → s ≤ 3601 → (∀ t, t < s → f t = nI (mh_nv (mh_mn b t))) → f_X12_trialStamps_b28 k11 mh_fu (bd 0) (nI b.length) (nI s) (536870912 : Int32) 0 hh = f_X12_trialStamps_b72 k11 (bd 0) (nI b.length) (nI s) (nI (mh_nv (mh_mn b s))) hh := fun k11 hh f s hfr hf s1 s2 hv => by
    have ho' : hh (bd 0) = _ := (hfr _ (by simp [hI.ne (show 0 < 99 by omega) (show 64 < 99 by omega) (by omega)])).trans ho
    have hb' : hh (bd 62) = _ := (hfr _ (by simp [hI.ne (show 62 < 99 by omega) (show 64 < 99 by omega) (by omega)])).trans hb
    have key := mh_wh (fun m (q : Nat × Nat) => f_X12_trialStamps_b28 k11 m (bd 0) (nI b.length) (nI s) (nI q.2) (nI q.1) hh) (fun (v : Nat) => f_X12_trialStamps_b72 k11 (bd 0) (nI b.length) (nI s) (nI v) hh) (fun q => q.1 ≤ b.length ∧ mh_lv b s q.1 q.2) (fun q => b.length - q.1) (fun v => v = mh_nv (mh_mn b s))
      (fun m q hq => by
        obtain ⟨i, v⟩ := q
        obtain ⟨q1, q2⟩ := hq
        have q1 : i ≤ b.length := q1
        have q2 : mh_lv b s i v := q2
        obtain ⟨v0, v1, v2⟩ := id q2
        show (∃ s', _ ∧ _ ∧ f_X12_trialStamps_b28 k11 (m + 1) (bd 0) (nI b.length) (nI s) (nI v) (nI i) hh = _) ∨ ∃ r, _ ∧ f_X12_trialStamps_b28 k11 (m + 1) (bd 0) (nI b.length) (nI s) (nI v) (nI i) hh = _
        rw [f_X12_trialStamps_b28]
        by_cases c : i < b.length
        · left
          have cb := hm.1.get c
          rw [if_neg (fun q => absurd ((nI_leI (by omega) (by omega)).mp q) (by omega)), mh_gR_eq (k := 24) ho' rfl, Option.bind_some, mh_aI_eq hb' (show i < 6 by omega) (by omega), Option.bind_some, hbv i c]
          by_cases c2 : s < b.getD i 0
          · refine ⟨(i + 1, v), ⟨c, v0, fun j hj hle => ?_, ?_⟩, by show b.length - (i + 1) < b.length - i; omega, ?_⟩
            · have hj : j < i + 1 := hj
              by_cases e : j = i
              · rw [e] at hle; omega
              · exact v1 j (by omega) hle
            · rcases v2 with q | ⟨j, j1, j2⟩
              · exact Or.inl q
              · exact Or.inr ⟨j, by show j < i + 1; omega, j2⟩
            · rw [if_pos ((nI_ltI (by omega) (by omega)).mpr c2)]
              unfold f_X12_trialStamps_b66
              rw [mh_nm_eq, mh_inc]
          · have nl := mh_nv_le (s := s - b.getD i 0) hp (by omega)
            have e2 : nI (mh_nv (mh_mn b (s - b.getD i 0))) + (1 : Int32) = nI (mh_nv (mh_mn b (s - b.getD i 0)) + 1) := nI_1 _
            rw [if_neg (fun q => c2 ((nI_ltI (by omega) (by omega)).mp q)), mh_gR_eq (k := 29) ho' rfl, Option.bind_some, Option.bind_some, mh_aI_eq hb' (show i < 6 by omega) (by omega), Option.bind_some, hbv i c, pk_sub (by omega), mh_aI_eq hf (show s - b.getD i 0 < 3902 by omega) (by omega), Option.bind_some, hv _ (by omega), e2, mh_nm_eq]
            by_cases c3 : mh_nv (mh_mn b (s - b.getD i 0)) + 1 < v
            · refine ⟨(i + 1, mh_nv (mh_mn b (s - b.getD i 0)) + 1), ⟨c, by omega, fun j hj hle => ?_, Or.inr ⟨i, Nat.lt_succ_self i, by omega, rfl⟩⟩, by show b.length - (i + 1) < b.length - i; omega, ?_⟩
              · have hj : j < i + 1 := hj
                by_cases e : j = i
                · rw [e]; exact Nat.le_refl _
                · have := v1 j (by omega) hle
                  show mh_nv (mh_mn b (s - b.getD i 0)) + 1 ≤ _
                  omega
              · rw [if_pos ((nI_ltI (by omega) (by omega)).mpr c3)]
                unfold f_X12_trialStamps_b66
                rw [mh_nm_eq, mh_inc]
            · refine ⟨(i + 1, v), ⟨c, v0, fun j hj hle => ?_, ?_⟩, by show b.length - (i + 1) < b.length - i; omega, ?_⟩
              · have hj : j < i + 1 := hj
                by_cases e : j = i
                · rw [e]; show v ≤ _; omega
                · exact v1 j (by omega) hle
              · rcases v2 with q | ⟨j, j1, j2⟩
                · exact Or.inl q
                · exact Or.inr ⟨j, by show j < i + 1; omega, j2⟩
              · rw [if_neg (fun q => c3 ((nI_ltI (by omega) (by omega)).mp q))]
                unfold f_X12_trialStamps_b66
                rw [mh_nm_eq, mh_inc]
        · right
          have e : i = b.length := by omega
          subst e
          exact ⟨v, mh_lv_end hm s1 (by omega) q2, by rw [if_pos ((nI_leI (by omega) (by omega)).mpr (by omega))]⟩)
      6 mh_fu (0, 536870912) (by show b.length - 0 ≤ 6; omega) ⟨Nat.zero_le _, Nat.le_refl _, fun j hj => absurd hj (Nat.not_lt_zero j), Or.inl rfl⟩ (mh_fuel _ (by omega))
    obtain ⟨v, z1, z2⟩ := key
    rw [z1] at z2
    exact z2
  have key := mh_wh (fun m (q : Nat × mh_H) => f_X12_trialStamps_b11 m (bd 0) (nI b.length) (nI q.1) (nI (mh_nv (mh_mn b q.1))) q.2) (fun (r : Nat × mh_H) => some (nI r.1, r.2)) (fun q => (∀ x, x < q.1 → ∃ n, mh_mn b x = some n ∧ n ≤ H) ∧ mh_fr [bd 64] h q.2 ∧ ∃ f, q.2 (bd 64) = some (.inl (0, 3902, .inl f)) ∧ ∀ t, t ≤ q.1 → f t = nI (mh_nv (mh_mn b t))) (fun q => 3602 - q.1) (fun r => mh_up2 b H r.1 ∧ mh_fr [bd 64] h r.2 ∧ ∃ f, r.2 (bd 64) = some (.inl (0, 3902, .inl f)))
    (fun m q hq => by
      obtain ⟨s, hh⟩ := q
      obtain ⟨q1, q2, f, q3, q4⟩ := hq
      have q1 : ∀ x, x < s → ∃ n, mh_mn b x = some n ∧ n ≤ H := q1
      have q2 : mh_fr [bd 64] h hh := q2
      have q3 : hh (bd 64) = some (.inl (0, 3902, .inl f)) := q3
      have q4 : ∀ t, t ≤ s → f t = nI (mh_nv (mh_mn b t)) := q4
      show (∃ s', _ ∧ _ ∧ f_X12_trialStamps_b11 (m + 1) (bd 0) (nI b.length) (nI s) (nI (mh_nv (mh_mn b s))) hh = _) ∨ ∃ r, _ ∧ f_X12_trialStamps_b11 (m + 1) (bd 0) (nI b.length) (nI s) (nI (mh_nv (mh_mn b s))) hh = _
      have sb : s ≤ 3601 := by
        refine Nat.le_of_not_lt (fun q => ?_)
        have := mh_up2_b (s := 3601) b3 (fun x hx => q1 x (by omega))
        have := Nat.mul_le_mul_right 300 hH
        omega
      have nl := mh_nv_le (s := s) hp (by omega)
      have ho' : hh (bd 0) = _ := (q2 _ (by simp [hI.ne (show 0 < 99 by omega) (show 64 < 99 by omega) (by omega)])).trans ho
      rw [f_X12_trialStamps_b11, mh_gI_eq (k := 28) ho' rfl, Option.bind_some, h28]
      by_cases c : H < mh_nv (mh_mn b s)
      · right
        have s0 : s ≠ 0 := fun q => by
          rw [q, mh_mn0] at c
          have c : H < 0 := c
          omega
        obtain ⟨t, et⟩ : ∃ t, s = t + 1 := ⟨s - 1, by omega⟩
        subst et
        refine ⟨(t, hh), ⟨⟨fun x hx => q1 x (by have hx : x ≤ t := hx; omega), fun q => ?_⟩, q2, f, q3⟩, ?_⟩
        · obtain ⟨n, n1, n2⟩ := q
          have n1 : mh_mn b (t + 1) = some n := n1
          rw [n1] at c
          have c : H < n := c
          omega
        · rw [if_pos ((nI_ltI (by omega) (by omega)).mpr c)]
          unfold f_X12_trialStamps_b82
          rw [show nI (t + 1) - (1 : Int32) = nI t from pk_sub (b := 1) (by omega)]
      · left
        have hs : ∃ n, mh_mn b s = some n ∧ n ≤ H := by
          cases hv : mh_mn b s with
          | none =>
            rw [hv] at c
            have c : ¬ H < 536870912 := c
            omega
          | some n =>
            rw [hv] at c
            have c : ¬ H < n := c
            exact ⟨n, rfl, by omega⟩
        have all : ∀ x, x < s + 1 → ∃ n, mh_mn b x = some n ∧ n ≤ H := fun x hx => by
          by_cases e : x = s
          · rw [e]; exact hs
          · exact q1 x (by omega)
        have sb2 : s ≤ 3600 := by
          have := mh_up2_b (s := s) b3 (fun x hx => all x (by omega))
          have := Nat.mul_le_mul_right 300 hH
          omega
        have inn := inner (f_X12_trialStamps_b11 m) hh f (s + 1) q2 q3 (by omega) (by omega) (fun t ht => q4 t (by omega))
        refine ⟨(s + 1, mh_up hh (bd 64) (.inl (0, 3902, .inl (upd f (s + 1) (nI (mh_nv (mh_mn b (s + 1)))))))), ⟨all, q2.trans (mh_fr.up List.mem_cons_self), _, mh_up_eq _ _ _, fun t ht => ?_⟩, by show 3602 - (s + 1) < 3602 - s; omega, ?_⟩
        · have ht : t ≤ s + 1 := ht
          by_cases e : t = s + 1
          · rw [e, pk_us]
          · rw [pk_un e]; exact q4 t (by omega)
        · rw [if_neg (fun q => c ((nI_ltI (by omega) (by omega)).mp q)), mh_nm_eq, mh_nm_eq, mh_nm_eq, mh_inc, inn]
          unfold f_X12_trialStamps_b72
          rw [mh_gR_eq (k := 29) ho' rfl, Option.bind_some, mh_sI_eq q3 (show s + 1 < 3902 by omega) (by omega), Option.bind_some])
    3602 mh_fu (0, h0) (by show 3602 - 0 ≤ 3602; omega) ⟨fun x hx => absurd hx (Nat.not_lt_zero x), by show mh_fr [bd 64] h h0; rw [e0]; exact mh_fr.up List.mem_cons_self, upd fr 0 0, by show h0 (bd 64) = _; rw [e0]; exact mh_up_eq _ _ _, fun t ht => by
      have ht : t ≤ 0 := ht
      rw [Nat.le_zero.mp ht, pk_us, mh_mn0]
      rfl⟩ (mh_fuel _ (by omega))
  obtain ⟨⟨s, h'⟩, ⟨z1, z2, f, z3⟩, z4⟩ := key
  have z1 : mh_up2 b H s := z1
  have z4 : f_X12_trialStamps_b11 mh_fu (bd 0) (nI b.length) (nI 0) (nI (mh_nv (mh_mn b 0))) h0 = some (nI s, h') := z4
  rw [mh_mn0] at z4
  have z4 : f_X12_trialStamps_b11 mh_fu (bd 0) (nI b.length) 0 0 h0 = some (nI s, h') := z4
  have er := mh_rh_is z1
  refine ⟨h', f, ?_, z3, z2, ?_⟩
  · unfold f_X12_trialStamps_e
    rw [mh_nm_eq, mh_nm_eq, mh_gR_eq (k := 29) ho rfl, Option.bind_some, s0, Option.bind_some, z4, er]
  · rw [er]
    have := mh_up2_b b3 z1.1
    have := Nat.mul_le_mul_right 300 hH
    omega
end MhModelSt
