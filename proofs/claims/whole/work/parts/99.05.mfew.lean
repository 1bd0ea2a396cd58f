theorem mh_subneg {a b : Nat} (h : a < b) (hb : b < 2 ^ 31) : nI a - nI b < 0 := by
  rw [Int32.lt_iff_toInt_lt, Int32.toInt_sub, nI_toInt (by omega), nI_toInt hb, Int.bmod_eq_of_le (by omega) (by omega)]
  show (a : Int) - b < 0
  omega
theorem mh_Tm_ak {cs : List Nat} {s c v k : Nat} (hv : mh_mn cs s = some v) (hc : c ∈ cs) (h : mh_Tm cs s c k) : mh_Ak cs s c v k ∧ ¬ mh_Ak cs s c v (k + 1) := by
  obtain ⟨⟨l, h1, h2⟩, h3⟩ := h
  refine ⟨mh_Ak_of hv hc h1 (by omega), fun q => ?_⟩
  obtain ⟨l', hl'⟩ := mh_Op_ex q.2.2
  have a := h3 _ (mh_Ak_op hv hc q hl')
  rw [List.count_append, List.count_replicate_self] at a
  omega
/-- a great sum has as many more of the greatest coin as it is greater -/
theorem mh_Tm_sh {cs : List Nat} {g d m k v : Nat} (hg : mh_gr cs g) (hd : m = 0 ∨ (g - 1) * (g - 1) < d + g) (hv : mh_mn cs d = some v) (h : mh_Tm cs d g k) : mh_Tm cs (d + m * g) g (k + m) := by
  obtain ⟨a1, a2⟩ := mh_Tm_ak hv hg.1 h
  have hv2 : mh_mn cs (d + m * g) = some (v + m) := by
    rcases hd with q | q
    · subst q; rw [Nat.zero_mul]; exact hv
    · rw [mh_perk hg q, hv]; rfl
  have e : ∀ x, x * g ≤ d → d + m * g - (x + m) * g = d - x * g := fun x hx => by rw [Nat.add_mul]; omega
  refine mh_Tm_of hv2 hg.1 ⟨?_, ?_, ?_⟩ (fun q => a2 ?_)
  · rw [Nat.add_mul]; have := a1.1; omega
  · have := a1.2.1; omega
  · rw [e k a1.1, a1.2.2]
    congr 1
    omega
  · obtain ⟨q1, q2, q3⟩ := q
    rw [show k + m + 1 = k + 1 + m by omega] at q1 q2 q3
    have q4 : (k + 1) * g ≤ d := by rw [Nat.add_mul] at q1; omega
    rw [e (k + 1) q4] at q3
    exact ⟨q4, by omega, by rw [q3]; congr 1; omega⟩
section MhModelF
variable {h : mh_H} {bd : Nat → Nat} {σ : mh_Sg} {F : Nat → Int32}
theorem mh_r_isSum (y : Int64) : (∃ s, s ≤ 1000000000000000 ∧ y = lN s ∧ f_X12_isSum_e y h = some (1, h)) ∨ ((∀ s, s ≤ 1000000000000000 → y ≠ lN s) ∧ f_X12_isSum_e y h = some (0, h)) := by
  unfold f_X12_isSum_e
  by_cases h0 : y < 0
  · right
    refine ⟨fun s hs e => ?_, ?_⟩
    · rw [e] at h0
      have := (pk_lLT (b := 0) (by omega) (by omega)).mp h0
      omega
    · have c : lg_cmp y (0 : Int64) < 0 := (mh_clt _ _).mpr (fun q => q.elim (fun q => Int64.lt_irrefl (Int64.lt_trans h0 q)) (fun q => by rw [q] at h0; exact Int64.lt_irrefl h0))
      rw [if_pos c]
      rfl
  · obtain ⟨s, s1, s2⟩ := pk_lOf h0
    subst s2
    have c : ¬ lg_cmp (lN s) (0 : Int64) < 0 := fun q => absurd ((mh_cltN (b := 0) s1 (by omega)).mp q) (by omega)
    rw [if_neg c]
    by_cases h1 : s ≤ 1000000000000000
    · left
      have c1 : ¬ 0 < lg_cmp (lN s) (1000000000000000 : Int64) := fun q => absurd ((mh_cgtN (b := 1000000000000000) s1 (by omega)).mp q) (by omega)
      exact ⟨s, h1, rfl, by rw [if_neg c1]; rfl⟩
    · right
      refine ⟨fun t ht e => ?_, ?_⟩
      · have := (mh_lN_inj s1 (by omega)).mp e
        omega
      · rw [if_pos (show 0 < lg_cmp (lN s) (1000000000000000 : Int64) from (mh_cgtN (b := 1000000000000000) s1 (by omega)).mpr (by omega))]
        rfl
/-- a failing call -/
theorem mh_r_fl (hR : mh_RI h bd σ F) (e : Nat) {α : Type} (K : Int32 → mh_H → Option α) : ∃ h1 F1, mh_b2 (mh_cal h (bd 0) 12 (f_X12_fail_e (bd 0) (nI e) h)) K = K 0 h1 ∧ mh_RI h1 bd σ F1 ∧ F1 0 = nI e ∧ mh_frR bd h h1 := by
  obtain ⟨h2, F2, y1, y2, y3, y4⟩ := mh_r_fail hR e
  exact ⟨h2, F2, by rw [mh_cal_eq hR.ob, mh_b2_eq y1], y2, y3, y4⟩
theorem mh_r_greatest {cs : List Nat} (ho : h (bd 0) = some (.inr (12, mh_rf bd F))) (hT : mh_Tb h bd F cs) (hm : mh_ms cs) (hn : 0 < cs.length) : f_X12_greatest_e (bd 0) h = some (nI (mh_tp cs), h) := by
  obtain ⟨h7, fb, G, t1, t2, t3, t4, t5⟩ := hT
  have hl := hm.1.1
  unfold f_X12_greatest_e
  rw [mh_gR_eq (k := 6) ho rfl, Option.bind_some, mh_gI_eq (k := 7) ho rfl, Option.bind_some, h7, show nI cs.length - (1 : Int32) = nI (cs.length - 1) from pk_sub (b := 1) (by omega), mh_aI_eq t1 (by omega) (by omega), Option.bind_some, t4 _ (by omega)]
  rfl
theorem mh_r_down {cs : List Nat} (ho : h (bd 0) = some (.inr (12, mh_rf bd F))) (hT : mh_Tb h bd F cs) (hm : mh_ms cs) (hn : 0 < cs.length) {s : Nat} (hs : s ≤ 1000000000000000) : ∃ d k, f_X12_down_e (bd 0) (lN s) h = some (nI d, h) ∧ d ≤ 100300 ∧ s = d + k * mh_tp cs ∧ (k = 0 ∨ (mh_tp cs - 1) * (mh_tp cs - 1) < d + mh_tp cs) := by
  obtain ⟨⟨g1, g2⟩, g3, _⟩ := mh_tp_ok hm (fun q => by rw [q] at hn; exact Nat.lt_irrefl _ hn)
  have g4 := g2 _ g1
  unfold f_X12_down_e
  by_cases c : 100300 < s
  · have c1 : 0 < lg_cmp (lN s) (100300 : Int64) := (mh_cgtN (b := 100300) (by omega) (by omega)).mpr c
    obtain ⟨c', ec⟩ : ∃ c', c' = mh_tp cs := ⟨_, rfl⟩
    rw [← ec] at g3 g4
    have z0 : ¬ (nI c').toInt64 = 0 := fun q => by
      rw [nI_l (by omega)] at q
      exact absurd ((mh_lN_inj (b := 0) (by omega) (by omega)).mp q) (by omega)
    have e1 : (100300 : Int64) - lN c' = lN (100300 - c') := lN_sub (a := 100300) (by omega)
    have e2 : lN (100300 - c') + (1 : Int64) = lN (100300 - c' + 1) := lN_1 _
    have e3 : lN s - lN (100300 - c' + 1) = lN (s - (100300 - c' + 1)) := lN_sub (by omega)
    have e4 : mh_lrem (lN (s - (100300 - c' + 1))) (lN c') = lN ((s - (100300 - c' + 1)) % c') := pk_lRem (by omega) (by omega) (by omega)
    have m1 := Nat.mod_lt (s - (100300 - c' + 1)) (show 0 < c' by omega)
    have m2 := Nat.mod_add_div (s - (100300 - c' + 1)) c'
    refine ⟨100300 - c' + 1 + (s - (100300 - c' + 1)) % c', (s - (100300 - c' + 1)) / c', ?_, by omega, ?_, Or.inr ?_⟩
    · rw [if_pos c1, mh_cal_eq ho, mh_b2_eq (mh_r_greatest ho hT hm hn), mh_nm_eq, ← ec, mh_nz_eq z0, nI_l (by omega), e1, e2, e3, e4, lN_add, lN_i]
    · rw [← ec, Nat.mul_comm ((s - (100300 - c' + 1)) / c') c']
      omega
    · rw [← ec]
      have : (c' - 1) * (c' - 1) ≤ 299 * 299 := Nat.mul_le_mul (by omega) (by omega)
      omega
  · refine ⟨s, 0, ?_, by omega, by omega, Or.inl rfl⟩
    rw [if_neg (fun q : 0 < lg_cmp (lN s) (100300 : Int64) => c ((mh_cgtN (b := 100300) (by omega) (by omega)).mp q)), lN_i]
theorem mh_r_fewestOf {cs : List Nat} (ho : h (bd 0) = some (.inr (12, mh_rf bd F))) (hT : mh_Tb h bd F cs) (hm : mh_ms cs) {s : Nat} (hs : s ≤ 1000000000000000) : f_X12_fewestOf_e (bd 0) (lN s) h = some (mh_lz (mh_mn cs s), h) := by
  have hT0 := hT
  obtain ⟨h7, fb, G, t1, t2, t3, t4, t5⟩ := hT
  have hl := hm.1.1
  unfold f_X12_fewestOf_e
  rw [mh_gI_eq (k := 7) ho rfl, Option.bind_some, h7]
  by_cases hn : cs.length = 0
  · have e := List.length_eq_zero_iff.mp hn
    subst e
    rw [if_pos (show nI ([] : List Nat).length = 0 from rfl)]
    by_cases c : s = 0
    · subst c
      rw [if_pos (by decide), mh_mn0]
      rfl
    · rw [if_neg (fun q : lg_cmp (lN s) (0 : Int64) = 0 => c ((mh_ceqN (b := 0) (by omega) (by omega)).mp q)), mh_mn_nil (by omega)]
      rfl
  · obtain ⟨d, k, y1, y2, y3, y4⟩ := mh_r_down ho hT0 hm (by omega) hs
    obtain ⟨gr, g3, _⟩ := mh_tp_ok hm (fun q => by rw [q] at hn; exact hn rfl)
    have g4 := gr.2 _ gr.1
    have hp : mh_mn cs s = (mh_mn cs d).map (· + k) := by
      rcases y4 with q | q
      · rw [y3, q, Nat.zero_mul, Nat.add_zero]
        cases mh_mn cs d <;> rfl
      · rw [y3]; exact mh_perk gr q k
    have eG : G cs.length d = nI (mh_nv (mh_mn cs d)) := by rw [t5 _ (Nat.le_refl _) d y2, List.take_length]
    rw [if_neg (fun q => hn ((mh_eqr (b := 0) 0 rfl (by omega) (by omega)).mp q)), mh_cal_eq ho, mh_b2_eq y1, mh_gR_eq (k := 8) ho rfl, Option.bind_some, mh_gI_eq (k := 7) ho rfl, Option.bind_some, h7, mh_aR_eq t2 (show cs.length < 13 by omega) (by omega) rfl, Option.bind_some, mh_aI_eq (t3 cs.length (by omega)) (show d < 100301 by omega) (by omega), Option.bind_some, eG]
    cases hd : mh_mn cs d with
    | none =>
      rw [hd] at hp
      rw [if_neg (fun q => absurd ((mh_ltr (b := 536870912) 536870912 rfl (show mh_nv none < 2 ^ 31 by decide) (by omega)).mp q) (by decide)), hp]
      rfl
    | some n =>
      rw [hd] at hp
      have nb := mh_mn_b (fun x hx => (hm.1.2 x hx).1) hd
      have z0 : ¬ (nI (mh_tp cs)).toInt64 = 0 := fun q => by
        rw [nI_l (by omega)] at q
        exact absurd ((mh_lN_inj (b := 0) (by omega) (by omega)).mp q) (by omega)
      have en : mh_nv (some n) = n := rfl
      have ek : (s - d) / mh_tp cs = k := by rw [y3, Nat.add_sub_cancel_left, Nat.mul_div_cancel _ (by omega)]
      rw [en, if_pos ((mh_ltr (b := 536870912) 536870912 rfl (by omega) (by omega)).mpr (by omega)), mh_cal_eq ho, mh_b2_eq (mh_r_greatest ho hT0 hm (by omega)), mh_nz_eq z0, nI_l (by omega), nI_l (by omega), nI_l (by omega), lN_sub (by omega), pk_lDiv (by omega) (by omega) (by omega), lN_add, ek, hp]
      rfl
theorem mh_M_fewest (hR : mh_RI h bd σ F) (x1 : Int32) (y : Int64) : ∃ r v h' F', f_X12_fewest_e (bd 0) x1 y h = some (v, h') ∧ mh_Qm σ x1 (mh_Bfew y) r ∧ mh_an r v F' ∧ mh_RI h' bd σ F' ∧ mh_frR bd h h' := by
  obtain ⟨h1, F1, p1, R1, z1, f1⟩ := mh_r_code hR
  unfold f_X12_fewest_e
  rw [p1, Option.bind_some]
  rcases mh_r_isMint (h := h1) x1 with ⟨p, a1, a2, a3⟩ | ⟨a1, a3⟩
  · subst a2
    rw [mh_b2_eq a3, if_neg (by decide)]
    rcases mh_r_isSum (h := h1) y with ⟨s, s1, s2, s3⟩ | ⟨s1, s3⟩
    · subst s2
      obtain ⟨h2, F2, y1, R2, z2, T2, f2⟩ := mh_r_table R1 a1
      obtain ⟨g, hg, hw⟩ := R1.2 1 (by omega)
      rw [mh_b2_eq s3, if_neg (by decide), mh_cal_eq R1.ob, y1, Option.bind_some, mh_cal_eq R2.ob, mh_b2_eq (mh_r_fewestOf R2.ob T2 (hw p a1).1 s1)]
      exact ⟨_, _, h2, F2, rfl, Or.inr ⟨p, a1, rfl, Or.inl ⟨s, s1, rfl, rfl⟩⟩, Or.inl ⟨rfl, z2.trans z1⟩, R2, f1.trans f2⟩
    · obtain ⟨h2, F2, y1, R2, z2, f2⟩ := mh_r_fl R1 2 (fun v12 h11 => some ((v12).toInt64, h11))
      have y1 : mh_b2 (mh_cal h1 (bd 0) 12 (f_X12_fail_e (bd 0) (2 : Int32) h1)) _ = _ := y1
      rw [mh_b2_eq s3, if_pos rfl, y1]
      exact ⟨.inl 2, _, h2, F2, rfl, Or.inr ⟨p, a1, rfl, Or.inr ⟨s1, rfl⟩⟩, Or.inr ⟨2, rfl, z2⟩, R2, f1.trans f2⟩
  · obtain ⟨h2, F2, y1, R2, z2, f2⟩ := mh_r_fl R1 1 (fun v12 h11 => some ((v12).toInt64, h11))
    have y1 : mh_b2 (mh_cal h1 (bd 0) 12 (f_X12_fail_e (bd 0) (1 : Int32) h1)) _ = _ := y1
    rw [mh_b2_eq a3, if_pos rfl, y1]
    exact ⟨.inl 1, _, h2, F2, rfl, Or.inl ⟨a1, rfl⟩, Or.inr ⟨1, rfl, z2⟩, R2, f1.trans f2⟩
/-- how many of a coin a best paying has at most -/
theorem mh_r_most {cs : List Nat} (ho : h (bd 0) = some (.inr (12, mh_rf bd F))) (hT : mh_Tb h bd F cs) (hm : mh_ms cs) {j s v : Nat} (hj : j < cs.length) (hs : s ≤ 100300) (hv : mh_mn (cs.take (j + 1)) s = some v) : ∃ n, f_X12_most_e (bd 0) (nI (j + 1)) (nI s) h = some (nI n, h) ∧ mh_Tm (cs.take (j + 1)) s (cs.getD j 0) n ∧ n ≤ v ∧ n * cs.getD j 0 ≤ s ∧ mh_mn (cs.take j) (s - n * cs.getD j 0) = some (v - n) := by
  obtain ⟨h7, fb, G, t1, t2, t3, t4, t5⟩ := hT
  have hl := hm.1.1
  have hc := hm.1.get hj
  obtain ⟨c, ec⟩ : ∃ c, c = cs.getD j 0 := ⟨_, rfl⟩
  have hp : ∀ i x, x ∈ cs.take i → 1 ≤ x := fun i x hx => (hm.1.2 x (List.mem_of_mem_take hx)).1
  have vb := mh_mn_b (hp (j + 1)) hv
  have eT := mh_take_s hj
  rw [← ec] at hc eT ⊢
  have hcm : c ∈ cs.take (j + 1) := by rw [eT]; exact List.mem_append.mpr (Or.inr List.mem_cons_self)
  have hsub : ∀ x, x ∈ cs.take j → x ∈ cs.take (j + 1) := fun x hx => by rw [eT]; exact List.mem_append.mpr (Or.inl hx)
  have hnc : c ∉ cs.take j := fun q => by
    have := hm.2
    have h2 : (cs.take (j + 1)).Pairwise (· < ·) := this.sublist (List.take_sublist _ _)
    rw [eT] at h2
    have := (List.pairwise_append.mp h2).2.2 c q c List.mem_cons_self
    omega
  -- the condition
  have cond : ∀ n, n * c ≤ s → (nI (mh_nv (mh_mn (cs.take j) (s - n * c))) + nI n = nI v ↔ n ≤ v ∧ mh_mn (cs.take j) (s - n * c) = some (v - n)) := fun n hn => by
    have nb : n ≤ s := Nat.le_trans (Nat.le_mul_of_pos_right n (by omega)) hn
    have := mh_nv_le (s := s - n * c) (hp j) (by omega)
    rw [nI_add, nI_eq (by omega) (by omega)]
    cases e : mh_mn (cs.take j) (s - n * c) with
    | none =>
      have e2 : mh_nv none = 536870912 := rfl
      rw [e2]
      exact ⟨fun q => absurd q (by omega), fun q => absurd q.2 (by simp)⟩
    | some m =>
      have e2 : mh_nv (some m) = m := rfl
      rw [e2]
      exact ⟨fun q => ⟨by omega, by congr 1; omega⟩, fun q => by have := Option.some.inj q.2; omega⟩
  have cnt : ∀ l, mh_Op (cs.take (j + 1)) s l → l.count c * c ≤ s ∧ l.count c ≤ v ∧ mh_mn (cs.take j) (s - l.count c * c) = some (v - l.count c) := fun l hl2 => by
    obtain ⟨o1, o2, o3⟩ := hl2
    have ev : v = l.length := by rw [hv] at o3; exact Option.some.inj o3
    obtain ⟨l0, q1, q2, q3⟩ := mh_outc c l
    refine ⟨by omega, by omega, mh_mn_some.mpr ⟨⟨l0, fun x hx => ?_, by omega, by omega⟩, fun m hm2 => ?_⟩⟩
    · have := o1 x (q1 x hx).1
      rw [eT] at this
      rcases List.mem_append.mp this with q | q
      · exact q
      · exact absurd (List.mem_singleton.mp q) (q1 x hx).2
    · have := mh_pay_rep hcm (mh_pay_sub hm2 hsub) (l.count c)
      rw [Nat.sub_add_cancel (by omega)] at this
      have := mh_mn_le hv this
      omega
  obtain ⟨l1, hl1⟩ := mh_Op_ex hv
  have key := mh_wh (fun m (q : Nat × Nat) => f_X12_most_b28 m (bd 0) (nI (j + 1)) (nI q.1) (nI s - nI (q.1 * c)) (nI c) (nI v) (nI q.2) h) (fun (r : Nat) => some (nI r, h)) (fun q => (q.1 = 0 ∨ (q.1 - 1) * c ≤ s) ∧ (∀ n, n < q.1 → n * c ≤ s → n ≤ v → mh_mn (cs.take j) (s - n * c) = some (v - n) → n ≤ q.2 ∧ q.2 ≤ v ∧ q.2 * c ≤ s ∧ mh_mn (cs.take j) (s - q.2 * c) = some (v - q.2))) (fun q => s + 1 - q.1) (fun r => ∀ n, n * c ≤ s → n ≤ v → mh_mn (cs.take j) (s - n * c) = some (v - n) → n ≤ r ∧ r ≤ v ∧ r * c ≤ s ∧ mh_mn (cs.take j) (s - r * c) = some (v - r))
    (fun m q hq => by
      obtain ⟨n, b⟩ := q
      obtain ⟨q1, q2⟩ := hq
      have q1 : n = 0 ∨ (n - 1) * c ≤ s := q1
      have q2 : ∀ n', n' < n → n' * c ≤ s → n' ≤ v → mh_mn (cs.take j) (s - n' * c) = some (v - n') → n' ≤ b ∧ b ≤ v ∧ b * c ≤ s ∧ mh_mn (cs.take j) (s - b * c) = some (v - b) := q2
      show (∃ s', _ ∧ _ ∧ f_X12_most_b28 (m + 1) (bd 0) (nI (j + 1)) (nI n) (nI s - nI (n * c)) (nI c) (nI v) (nI b) h = _) ∨ ∃ r, _ ∧ f_X12_most_b28 (m + 1) (bd 0) (nI (j + 1)) (nI n) (nI s - nI (n * c)) (nI c) (nI v) (nI b) h = _
      have nb : n ≤ s + 1 := by
        rcases q1 with q | q
        · omega
        · have := Nat.le_mul_of_pos_right (n - 1) (show 0 < c by omega); omega
      by_cases hle : n * c ≤ s
      · left
        have nb2 : n ≤ s := Nat.le_trans (Nat.le_mul_of_pos_right n (by omega)) hle
        have e1 : nI (j + 1) - (1 : Int32) = nI j := pk_sub (b := 1) (by omega)
        have e2 : nI (s - n * c) - nI c = nI s - nI ((n + 1) * c) := by
          rw [← pk_sub hle, Int32.sub_eq_add_neg, Int32.sub_eq_add_neg, Int32.sub_eq_add_neg, Nat.succ_mul, ← nI_add, Int32.neg_add, Int32.add_assoc, Int32.sub_eq_add_neg]
        have fin : ∀ x b', x = nI b' → (∀ n', n' < n + 1 → n' * c ≤ s → n' ≤ v → mh_mn (cs.take j) (s - n' * c) = some (v - n') → n' ≤ b' ∧ b' ≤ v ∧ b' * c ≤ s ∧ mh_mn (cs.take j) (s - b' * c) = some (v - b')) → ∃ s' : Nat × Nat, ((s'.1 = 0 ∨ (s'.1 - 1) * c ≤ s) ∧ (∀ n, n < s'.1 → n * c ≤ s → n ≤ v → mh_mn (cs.take j) (s - n * c) = some (v - n) → n ≤ s'.2 ∧ s'.2 ≤ v ∧ s'.2 * c ≤ s ∧ mh_mn (cs.take j) (s - s'.2 * c) = some (v - s'.2))) ∧ s + 1 - s'.1 < s + 1 - n ∧ f_X12_most_b54 (f_X12_most_b28 m) (bd 0) (nI (j + 1)) (nI n) (nI (s - n * c)) (nI c) (nI v) x h = f_X12_most_b28 m (bd 0) (nI (j + 1)) (nI s'.1) (nI s - nI (s'.1 * c)) (nI c) (nI v) (nI s'.2) h := fun x b' hx hb => by
          refine ⟨(n + 1, b'), ⟨Or.inr hle, hb⟩, by show s + 1 - (n + 1) < s + 1 - n; omega, ?_⟩
          unfold f_X12_most_b54
          rw [mh_nm_eq, mh_nm_eq, mh_inc, e2, hx]
        rw [pk_sub hle, f_X12_most_b28, if_neg (nI_pos (by omega)), mh_gR_eq (k := 8) ho rfl, Option.bind_some, e1, mh_aR_eq t2 (show j < 13 by omega) (by omega) rfl, Option.bind_some, mh_aI_eq (t3 j (by omega)) (show s - n * c < 100301 by omega) (by omega), Option.bind_some, t5 j (by omega) _ (by omega)]
        by_cases cc : nI (mh_nv (mh_mn (cs.take j) (s - n * c))) + nI n = nI v
        · have cc' := (cond n hle).mp cc
          rw [if_pos cc]
          exact fin _ n rfl (fun n' h1 h2 h3 h4 => ⟨by omega, cc'.1, hle, cc'.2⟩)
        · rw [if_neg cc]
          refine fin _ b rfl (fun n' h1 h2 h3 h4 => ?_)
          by_cases e : n' = n
          · subst e
            exact absurd ((cond n' hle).mpr ⟨h3, h4⟩) cc
          · exact q2 n' (by omega) h2 h3 h4
      · right
        have nn : n * c < 2 ^ 31 := by
          rcases q1 with q | q
          · subst q; omega
          · have : n * c = (n - 1) * c + c := by rw [← Nat.succ_mul]; congr 1; cases n with | zero => omega | succ n => rfl
            omega
        refine ⟨b, fun n' h2 h3 h4 => q2 n' ?_ h2 h3 h4, ?_⟩
        · refine Nat.lt_of_not_le (fun q => ?_)
          have := Nat.mul_le_mul_right c q
          omega
        · rw [f_X12_most_b28, if_pos (mh_subneg (by omega) nn)]
          rfl)
    (s + 1) mh_fu (0, 0) (by show s + 1 - 0 ≤ s + 1; omega) ⟨Or.inl rfl, fun n hn => absurd hn (Nat.not_lt_zero n)⟩ (mh_fuel _ (by omega))
  obtain ⟨r, z1, z2⟩ := key
  have z2 : f_X12_most_b28 mh_fu (bd 0) (nI (j + 1)) (nI 0) (nI s - nI (0 * c)) (nI c) (nI v) (nI 0) h = some (nI r, h) := z2
  have x1 := cnt l1 hl1
  have x2 := z1 _ x1.1 x1.2.1 x1.2.2
  refine ⟨r, ?_, ⟨?_, fun l hl2 => ?_⟩, x2.2.1, x2.2.2.1, x2.2.2.2⟩
  · have e1 : nI (j + 1) - (1 : Int32) = nI j := pk_sub (b := 1) (by omega)
    rw [Nat.zero_mul, pk_sub (Nat.zero_le s), Nat.sub_zero] at z2
    unfold f_X12_most_e
    rw [mh_nm_eq, mh_gR_eq (k := 6) ho rfl, Option.bind_some, e1, mh_aI_eq t1 (show j < 12 by omega) (by omega), Option.bind_some, t4 j hj, ← ec, mh_gR_eq (k := 8) ho rfl, Option.bind_some, mh_aR_eq t2 (show j + 1 < 13 by omega) (by omega) rfl, Option.bind_some, mh_aI_eq (t3 (j + 1) (by omega)) (show s < 100301 by omega) (by omega), Option.bind_some, mh_nm_eq, t5 (j + 1) (by omega) s hs, hv]
    exact z2
  · obtain ⟨l, l2, l3⟩ := mh_mn_pay x2.2.2.2
    refine ⟨l ++ List.replicate r c, ⟨fun x hx => ?_, ?_, ?_⟩, ?_⟩
    · rcases List.mem_append.mp hx with q | q
      · exact hsub x (l2 x q)
      · rw [(List.mem_replicate.mp q).2]; exact hcm
    · rw [List.sum_append_nat, List.sum_replicate_nat]; have := x2.2.2.1; omega
    · rw [hv, List.length_append, List.length_replicate]; congr 1; have := x2.2.1; omega
    · rw [List.count_append, List.count_replicate_self, List.count_eq_zero.mpr (fun q => hnc (l2 c q))]; omega
  · have y1 := cnt l hl2
    exact (z1 _ y1.1 y1.2.1 y1.2.2).1
theorem mh_r_with {cs : List Nat} (ho : h (bd 0) = some (.inr (12, mh_rf bd F))) (hT : mh_Tb h bd F cs) (hm : mh_ms cs) {i mo : Nat} : ∀ (j m left v : Nat), j ≤ cs.length → i < j → j < m → left ≤ 100300 → mh_mn (cs.take j) left = some v → ∃ n, f_X12_with_b101 m (bd 0) (nI i) (lN mo) (nI left) (nI j) h = some (if i + 1 = cs.length then lN (n + mo) else lN n, h) ∧ mh_Td cs j left i n := by
  have hT0 := hT
  obtain ⟨h7, fb, G, t1, t2, t3, t4, t5⟩ := hT
  have hl := hm.1.1
  intro j
  induction j with
  | zero => intro m left v _ h2; exact absurd h2 (Nat.not_lt_zero i)
  | succ j ih =>
    intro m left v h1 h2 h3 h4 h5
    obtain ⟨m, rfl⟩ : ∃ k, m = k + 1 := ⟨m - 1, by omega⟩
    obtain ⟨n, y1, y2, y3, y4, y5⟩ := mh_r_most ho hT0 hm (show j < cs.length by omega) h4 h5
    have vb := mh_mn_b (fun x hx => (hm.1.2 x (List.mem_of_mem_take hx)).1) h5
    have e1 : nI (j + 1) - (1 : Int32) = nI j := pk_sub (b := 1) (by omega)
    rw [f_X12_with_b101, if_neg (nI_nle (by omega) (by omega)), mh_cal_eq ho, mh_b2_eq y1, e1]
    by_cases c : j = i
    · subst c
      refine ⟨n, ?_, n, y2, by rw [if_pos rfl]⟩
      rw [if_pos rfl]
      unfold f_X12_with_b125
      rw [mh_gI_eq (k := 7) ho rfl, Option.bind_some, h7]
      by_cases c2 : j + 1 = cs.length
      · rw [if_pos (by rw [c2]), if_pos c2, nI_l (by omega), lN_add]
        rfl
      · rw [if_neg (fun q => c2 ((nI_eq (by omega) (by omega)).mp q)), if_neg c2, nI_l (by omega)]
        rfl
    · obtain ⟨n', z1, z2⟩ := ih m (left - n * cs.getD j 0) _ (by omega) (by omega) (by omega) (by omega) y5
      refine ⟨n', ?_, n, y2, by rw [if_neg (fun q => c q.symm)]; exact z2⟩
      rw [if_neg (fun q => c ((nI_eq (by omega) (by omega)).mp q)), mh_gR_eq (k := 6) ho rfl, Option.bind_some, mh_aI_eq t1 (show j < 12 by omega) (by omega), Option.bind_some, t4 j (by omega), mh_nI_mul, pk_sub y4, mh_nm_eq, mh_nm_eq, mh_dec]
      exact z1
theorem mh_M_with (hR : mh_RI h bd σ F) (x1 : Int32) (y : Int64) (x4 : Int32) : ∃ r v h' F', f_X12_with_e (bd 0) x1 y x4 h = some (v, h') ∧ mh_Qm σ x1 (mh_Bwith y x4) r ∧ mh_an r v F' ∧ mh_RI h' bd σ F' ∧ mh_frR bd h h' := by
  obtain ⟨h1, F1, p1, R1, z1, f1⟩ := mh_r_code hR
  unfold f_X12_with_e
  rw [p1, Option.bind_some]
  have bad : mh_Qm σ x1 (mh_Bwith y x4) (.inl 1) → ∃ r v h' F', f_X12_with_b31 (bd 0) h1 = some (v, h') ∧ mh_Qm σ x1 (mh_Bwith y x4) r ∧ mh_an r v F' ∧ mh_RI h' bd σ F' ∧ mh_frR bd h h' := fun hr => by
    obtain ⟨h2, F2, y1, R2, z2, f2⟩ := mh_r_fl R1 1 (fun v12 h11 => some ((v12).toInt64, h11))
    exact ⟨.inl 1, _, h2, F2, y1, hr, Or.inr ⟨1, rfl, z2⟩, R2, f1.trans f2⟩
  rcases mh_r_isMint (h := h1) x1 with ⟨p, a1, a2, a3⟩ | ⟨a1, a3⟩
  · subst a2
    obtain ⟨g, hg, hw⟩ := R1.2 1 (by omega)
    obtain ⟨w1, w2, w3, w4, _⟩ := hw p a1
    have hl := w1.1.1
    rw [mh_b2_eq a3, if_neg (by decide)]
    rcases mh_sgn x4 with ⟨q1, q2⟩ | ⟨q1, i, q2, q3⟩
    · rw [if_pos q1]
      exact bad (Or.inr ⟨p, a1, rfl, Or.inl ⟨fun i hi => q2 i (by have hi : i < (mh_mi σ p).length := hi; omega), rfl⟩⟩)
    · subst q3
      rw [if_neg q1, mh_gR_eq (k := 1) R1.ob rfl, Option.bind_some, mh_b2_eq mh_r_mintAt, mh_aI_eq hg (show 13 * p < 304 by omega) (by omega), Option.bind_some, w3]
      by_cases ci : i < (mh_mi σ p).length
      · rw [if_pos ((nI_ltI (by omega) (by omega)).mpr ci)]
        rcases mh_r_isSum (h := h1) y with ⟨s, s1, s2, s3⟩ | ⟨s1, s3⟩
        · subst s2
          obtain ⟨h2, F2, y1, R2, z2, T2, f2⟩ := mh_r_table R1 a1
          have ofw : ∀ z, mh_wi (mh_mi σ p) s i z → mh_Qm σ (nI p) (mh_Bwith (lN s) (nI i)) (.inr z) := fun z hz => Or.inr ⟨p, a1, rfl, Or.inr ⟨i, ci, rfl, Or.inl ⟨s, s1, rfl, z, hz, rfl⟩⟩⟩
          obtain ⟨cs, ecs⟩ : ∃ cs, cs = mh_mi σ p := ⟨_, rfl⟩
          rw [← ecs] at ofw T2 w1 ci hl
          rw [mh_b2_eq s3, if_neg (by decide), mh_cal_eq R1.ob, y1, Option.bind_some, mh_cal_eq R2.ob, mh_b2_eq (mh_r_fewestOf R2.ob T2 w1 s1)]
          have hpos : ∀ x, x ∈ cs → 1 ≤ x := fun x hx => (w1.1.2 x hx).1
          cases hv : mh_mn cs s with
          | none =>
            rw [if_neg (by decide)]
            exact ⟨_, _, h2, F2, rfl, ofw (-1) (Or.inl ⟨hv, rfl⟩), Or.inl ⟨rfl, z2.trans z1⟩, R2, f1.trans f2⟩
          | some v =>
            have vb := mh_mn_b hpos hv
            obtain ⟨d, k, u1, u2, u3, u4⟩ := mh_r_down R2.ob T2 w1 (by omega) s1
            obtain ⟨gr, g3, _⟩ := mh_tp_ok w1 (fun q => by rw [q] at ci; exact absurd ci (Nat.not_lt_zero i))
            have g4 := gr.2 _ gr.1
            have hp : mh_mn cs s = (mh_mn cs d).map (· + k) := by
              rcases u4 with q | q
              · rw [u3, q, Nat.zero_mul, Nat.add_zero]
                cases mh_mn cs d <;> rfl
              · rw [u3]; exact mh_perk gr q k
            cases hd : mh_mn cs d with
            | none => rw [hd, hv] at hp; cases hp
            | some v0 =>
              have z0 : ¬ (nI (mh_tp cs)).toInt64 = 0 := fun q => by
                rw [nI_l (by omega)] at q
                exact absurd ((mh_lN_inj (b := 0) (by omega) (by omega)).mp q) (by omega)
              have ek : (s - d) / mh_tp cs = k := by rw [u3, Nat.add_sub_cancel_left, Nat.mul_div_cancel _ (by omega)]
              obtain ⟨n, v1, v2⟩ := mh_r_with (i := i) (mo := k) R2.ob T2 w1 cs.length mh_fu d v0 (Nat.le_refl _) ci (mh_fuel _ (by omega)) u2 (by rw [List.take_length]; exact hd)
              have c0 : 0 ≤ lg_cmp (mh_lz (some v)) (0 : Int64) := (mh_cgeN (b := 0) (a := v) (by omega) (by omega)).mpr (Nat.zero_le _)
              rw [if_pos c0, mh_cal_eq R2.ob, mh_b2_eq u1, mh_cal_eq R2.ob, mh_b2_eq (mh_r_greatest R2.ob T2 w1 (by omega)), mh_nz_eq z0, mh_nm_eq, mh_gI_eq (k := 7) R2.ob rfl, Option.bind_some, T2.1, nI_l (by omega), nI_l (by omega), lN_sub (by omega), pk_lDiv (by omega) (by omega) (by omega), ek, v1]
              refine ⟨_, _, h2, F2, rfl, ofw _ (Or.inr ⟨⟨v, hv⟩, if i + 1 = cs.length then n + k else n, ?_, ?_⟩), Or.inl ⟨rfl, z2.trans z1⟩, R2, f1.trans f2⟩
              · -- the told count of the great sum
                obtain ⟨J, eJ⟩ : ∃ J, cs.length = J + 1 := ⟨cs.length - 1, by omega⟩
                have eT : cs.take (J + 1) = cs := by rw [← eJ, List.take_length]
                have etp : mh_tp cs = cs.getD J 0 := by unfold mh_tp; rw [eJ]; rfl
                rw [eJ] at v2 ⊢
                obtain ⟨k0, r1, r2⟩ := v2
                rw [eT, ← etp] at r1
                have sh := mh_Tm_sh gr u4 hd r1
                rw [← u3] at sh
                refine ⟨k0 + k, by rw [eT, ← etp]; exact sh, ?_⟩
                by_cases ei : i = J
                · rw [if_pos ei] at r2 ⊢
                  rw [if_pos (by omega), r2]
                · rw [if_neg ei] at r2 ⊢
                  rw [if_neg (by omega)]
                  have es : s - (k0 + k) * cs.getD J 0 = d - k0 * cs.getD J 0 := by rw [← etp, Nat.add_mul]; omega
                  rw [es]
                  exact r2
              · by_cases ei : i + 1 = cs.length
                · rw [if_pos ei, if_pos ei]
                · rw [if_neg ei, if_neg ei]
        · obtain ⟨h2, F2, y1, R2, z2, f2⟩ := mh_r_fl R1 2 (fun v12 h11 => some ((v12).toInt64, h11))
          have y1 : mh_b2 (mh_cal h1 (bd 0) 12 (f_X12_fail_e (bd 0) (2 : Int32) h1)) _ = _ := y1
          rw [mh_b2_eq s3, if_pos rfl, y1]
          exact ⟨.inl 2, _, h2, F2, rfl, Or.inr ⟨p, a1, rfl, Or.inr ⟨i, ci, rfl, Or.inr ⟨s1, rfl⟩⟩⟩, Or.inr ⟨2, rfl, z2⟩, R2, f1.trans f2⟩
      · rw [if_neg (fun q => ci ((nI_ltI (by omega) (by omega)).mp q))]
        refine bad (Or.inr ⟨p, a1, rfl, Or.inl ⟨fun j hj e => ?_, rfl⟩⟩)
        have hj : j < (mh_mi σ p).length := hj
        have := (nI_eq (by omega) (by omega)).mp e
        omega
  · rw [mh_b2_eq a3, if_pos rfl]
    exact bad (Or.inl ⟨a1, rfl⟩)
theorem mh_r_greedy {g : Nat → Int32} {cs : List Nat} {p : Nat} (hp : p < 8) (ho : h (bd 0) = some (.inr (12, mh_rf bd F))) (hg : h (bd 1) = some (.inl (0, 304, .inl g))) (hm : mh_ms cs) (hv : ∀ i, i < cs.length → g (13 * p + 1 + i) = nI (cs.getD i 0)) : ∀ (i n s k : Nat), i ≤ cs.length → i < n → k + s < 2 ^ 62 →
    f_X12_greedy_b50 n (bd 0) (nI p) (lN s) (lN k) (nI i) h = f_X12_greedy_b94 (lN (mh_gf cs i s k).1) (lN (mh_gf cs i s k).2) h := by
  have hl := hm.1.1
  intro i
  induction i with
  | zero =>
    intro n s k h1 h2 h3
    obtain ⟨n, rfl⟩ : ∃ k, n = k + 1 := ⟨n - 1, by omega⟩
    rw [f_X12_greedy_b50, if_pos (by decide)]
    rfl
  | succ j ih =>
    intro n s k h1 h2 h3
    obtain ⟨n, rfl⟩ : ∃ k, n = k + 1 := ⟨n - 1, by omega⟩
    have g1 := hm.1.get (show j < cs.length by omega)
    have z0 : ¬ (nI (cs.getD j 0)).toInt64 = 0 := fun q => by
      rw [nI_l (by omega)] at q
      exact absurd ((mh_lN_inj (b := 0) (by omega) (by omega)).mp q) (by omega)
    have h4 : 1 * (s / cs.getD j 0) ≤ cs.getD j 0 * (s / cs.getD j 0) := Nat.mul_le_mul_right _ g1.1
    have h5 : s % cs.getD j 0 + cs.getD j 0 * (s / cs.getD j 0) = s := Nat.mod_add_div _ _
    have e1 : nI (13 * p) + nI (j + 1) = nI (13 * p + 1 + j) := by rw [nI_add]; congr 1; omega
    have e2 : mh_lrem (lN s) (lN (cs.getD j 0)) = lN (s % cs.getD j 0) := pk_lRem (by omega) (by omega) (by omega)
    rw [f_X12_greedy_b50, if_neg (nI_nle (by omega) (by omega)), mh_gR_eq (k := 1) ho rfl, Option.bind_some, mh_b2_eq mh_r_mintAt, e1, mh_aI_eq hg (show 13 * p + 1 + j < 304 by omega) (by omega), Option.bind_some, hv j (by omega), mh_nz_eq z0, mh_nm_eq, mh_nz_eq z0, mh_nm_eq, mh_nm_eq, nI_l (by omega), e2, pk_lDiv (by omega) (by omega) (by omega), lN_add, mh_dec, ih n _ _ (by omega) (by omega) (by omega)]
    rfl
theorem mh_M_greedy (hR : mh_RI h bd σ F) (x1 : Int32) (y : Int64) : ∃ r v h' F', f_X12_greedy_e (bd 0) x1 y h = some (v, h') ∧ mh_Qm σ x1 (mh_Bgy y) r ∧ mh_an r v F' ∧ mh_RI h' bd σ F' ∧ mh_frR bd h h' := by
  obtain ⟨h1, F1, p1, R1, z1, f1⟩ := mh_r_code hR
  unfold f_X12_greedy_e
  rw [p1, Option.bind_some]
  rcases mh_r_isMint (h := h1) x1 with ⟨p, a1, a2, a3⟩ | ⟨a1, a3⟩
  · subst a2
    obtain ⟨g, hg, hw⟩ := R1.2 1 (by omega)
    obtain ⟨w1, w2, w3, w4, _⟩ := hw p a1
    have hl := w1.1.1
    rw [mh_b2_eq a3, if_neg (by decide)]
    rcases mh_r_isSum (h := h1) y with ⟨s, s1, s2, s3⟩ | ⟨s1, s3⟩
    · subst s2
      have gl := mh_gf_le (mh_mi σ p) (fun i hi => (w1.1.get hi).1) (mh_mi σ p).length s 0 (Nat.le_refl _)
      have key := mh_r_greedy a1 R1.ob hg w1 w4 (mh_mi σ p).length mh_fu s 0 (Nat.le_refl _) (mh_fuel _ (by omega)) (by omega)
      have key : f_X12_greedy_b50 mh_fu (bd 0) (nI p) (lN s) (0 : Int64) (nI (mh_mi σ p).length) h1 = _ := key
      rw [mh_b2_eq s3, if_neg (by decide), mh_nm_eq, mh_gR_eq (k := 1) R1.ob rfl, Option.bind_some, mh_b2_eq mh_r_mintAt, mh_aI_eq hg (show 13 * p < 304 by omega) (by omega), Option.bind_some, w3, key]
      refine ⟨_, mh_gy (mh_mi σ p) s, h1, F1, ?_, Or.inr ⟨p, a1, rfl, Or.inl ⟨s, s1, rfl, rfl⟩⟩, Or.inl ⟨rfl, z1⟩, R1, f1⟩
      unfold f_X12_greedy_b94 mh_gy
      by_cases c : (mh_gf (mh_mi σ p) (mh_mi σ p).length s 0).1 = 0
      · rw [if_pos c, c, if_pos (by decide)]
        rfl
      · rw [if_neg c, if_neg (fun q : lg_cmp (lN (mh_gf (mh_mi σ p) (mh_mi σ p).length s 0).1) (0 : Int64) = 0 => c ((mh_ceqN (b := 0) (by omega) (by omega)).mp q))]
        rfl
    · obtain ⟨h2, F2, y1, R2, z2, f2⟩ := mh_r_fl R1 2 (fun v12 h11 => some ((v12).toInt64, h11))
      have y1 : mh_b2 (mh_cal h1 (bd 0) 12 (f_X12_fail_e (bd 0) (2 : Int32) h1)) _ = _ := y1
      rw [mh_b2_eq s3, if_pos rfl, y1]
      exact ⟨.inl 2, _, h2, F2, rfl, Or.inr ⟨p, a1, rfl, Or.inr ⟨s1, rfl⟩⟩, Or.inr ⟨2, rfl, z2⟩, R2, f1.trans f2⟩
  · obtain ⟨h2, F2, y1, R2, z2, f2⟩ := mh_r_fl R1 1 (fun v12 h11 => some ((v12).toInt64, h11))
    have y1 : mh_b2 (mh_cal h1 (bd 0) 12 (f_X12_fail_e (bd 0) (1 : Int32) h1)) _ = _ := y1
    rw [mh_b2_eq a3, if_pos rfl, y1]
    exact ⟨.inl 1, _, h2, F2, rfl, Or.inl ⟨a1, rfl⟩, Or.inr ⟨1, rfl, z2⟩, R2, f1.trans f2⟩
end MhModelF
