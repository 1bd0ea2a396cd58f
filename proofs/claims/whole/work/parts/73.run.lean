theorem mh_tp_get {b : List Nat} (h : b ≠ []) : b.getD (b.length - 1) 0 = b.getLast h := by
  rw [List.getD_eq_getElem?_getD, List.getElem?_eq_getElem (by have := List.length_pos_iff.mpr h; omega), List.getLast_eq_getElem]
  rfl
section MhRun
variable {h : mh_H} {o bo bu fo fu nv lv oF a u t k v : Nat}
theorem mh_fx9_run (hd : mh_Sd bo bu fo fu nv lv a u) {b0 fnd0 cF : List Nat} {N0 L0 : Nat → Nat} {rch0 lk0 : Nat} (hS : mh_Ss h o bo bu fo fu nv lv b0 fnd0 N0 L0 rch0 lk0) (hF : mh_Fe h oF a u t k v cF) {K H : Nat} (hK1 : 1 ≤ K) (hK : K ≤ 6) (hH : H ≤ 50) :
    ∃ r : Int32 × mh_H, f_X9_run_e o (nI K) (nI H) oF h = some r ∧ ((r.1 = 1 ∧ (mh_se H (K - 1) [1] (0, 0, [])).1 ≤ 2000 ∧ (∃ b N L, mh_Ss r.2 o bo bu fo fu nv lv b (mh_se H (K - 1) [1] (0, 0, [])).2.2 N L (mh_se H (K - 1) [1] (0, 0, [])).2.1 (mh_se H (K - 1) [1] (0, 0, [])).1 ∧ mh_ms b) ∧ mh_ms (mh_se H (K - 1) [1] (0, 0, [])).2.2 ∧ (mh_se H (K - 1) [1] (0, 0, [])).2.1 ≤ 15000) ∨ (r.1 = 0 ∧ 2000 < (mh_se H (K - 1) [1] (0, 0, [])).1 ∧ ∃ b fnd N L rch, mh_Ss r.2 o bo bu fo fu nv lv b fnd N L rch 2000 ∧ mh_ms b ∧ mh_ms fnd ∧ rch ≤ 15000)) ∧ (∃ c, mh_Fe r.2 oF a u t k v c) ∧ mh_fr [o, bo, bu, fo, fu, nv, lv, oF, a, u, t] h r.2 := by
  have hd0 := hd
  obtain ⟨d1, d2, d3, d4, d5, d6, d7⟩ := hd
  obtain ⟨ST, hST⟩ : ∃ ST, ST = mh_se H (K - 1) [1] (0, 0, []) := ⟨_, rfl⟩
  rw [← hST]
  have main : ∀ (h1 : mh_H) (cF1 : List Nat), (∃ N L, mh_Ss h1 o bo bu fo fu nv lv [] [] N L 0 0 ∧ N 0 = 1 ∧ L 0 = 1) → mh_Fe h1 oF a u t k v cF1 → mh_fr [o, bo, bu, fo, fu, nv, lv, oF, a, u, t] h h1 → ∃ r : Int32 × mh_H, (((r.1 = 1 ∧ ST.1 ≤ 2000 ∧ (∃ b N L, mh_Ss r.2 o bo bu fo fu nv lv b ST.2.2 N L ST.2.1 ST.1 ∧ mh_ms b) ∧ mh_ms ST.2.2 ∧ ST.2.1 ≤ 15000) ∨ (r.1 = 0 ∧ 2000 < ST.1 ∧ ∃ b fnd N L rch, mh_Ss r.2 o bo bu fo fu nv lv b fnd N L rch 2000 ∧ mh_ms b ∧ mh_ms fnd ∧ rch ≤ 15000)) ∧ (∃ c, mh_Fe r.2 oF a u t k v c) ∧ mh_fr [o, bo, bu, fo, fu, nv, lv, oF, a, u, t] h r.2) ∧ f_X9_run_b41 mh_fu o (nI K) (nI H) oF (nI 0) h1 = some r := by
    intro h1 cF1 ⟨N1, L1, hS1, hN1, hL1⟩ hF1 hfr1
    refine mh_wh (fun n (q : Nat × mh_H) => f_X9_run_b41 n o (nI K) (nI H) oF (nI q.1) q.2) (fun (r : Int32 × mh_H) => some r)
      (fun q => q.1 ≤ 4000 ∧ ∃ b fnd N L rch lk, mh_Ss q.2 o bo bu fo fu nv lv b fnd N L rch lk ∧ q.1 + b.length = 2 * lk ∧ lk ≤ 2000 ∧ b.length ≤ K ∧ mh_ms b ∧ mh_ms fnd ∧ rch ≤ 15000 ∧ (∀ i, i ≤ b.length → 1 ≤ N i ∧ N i ≤ 301 ∧ L i ≤ 300 ∧ ∀ x, x ∈ b.take i → x < N i) ∧ mh_rm1 H K N L b b.length (lk, rch, fnd) = ST ∧ (∃ c, mh_Fe q.2 oF a u t k v c) ∧ mh_fr [o, bo, bu, fo, fu, nv, lv, oF, a, u, t] h q.2) (fun q => 4001 - q.1) _ (fun n q hq => ?_) 4001 mh_fu (0, h1) (by show 4001 - 0 ≤ 4001; omega)
      ⟨Nat.zero_le _, [], [], N1, L1, 0, 0, hS1, rfl, Nat.zero_le _, Nat.zero_le _, mh_ms_nil, mh_ms_nil, Nat.zero_le _, fun i hi => ?_, ?_, ⟨cF1, hF1⟩, hfr1⟩ (mh_fuel _ (by omega))
    rotate_left
    · have hi : i ≤ 0 := hi
      rw [show i = 0 by omega, hN1, hL1]
      exact ⟨by omega, by omega, by omega, fun x hx => absurd hx (by simp)⟩
    · show mh_rm1 H K N1 L1 [] 0 (0, 0, []) = ST
      rw [mh_rm1, hN1, hL1, hST]
      show mh_sl H (K - 1) [] 1 (0 + 1) (0, 0, []) = _
      rw [mh_sl_s (by show 0 ≤ 2000; omega)]
      rfl
    obtain ⟨tn, h2⟩ := q
    obtain ⟨q0, b, fnd, N, L, rch, lk, q1, q2, q3, q4, q5, q6, q7, q8, q9, ⟨cc, q10⟩, q11⟩ := hq
    have q0 : tn ≤ 4000 := q0
    have q1 : mh_Ss h2 o bo bu fo fu nv lv b fnd N L rch lk := q1
    have q2 : tn + b.length = 2 * lk := q2
    have q10 : mh_Fe h2 oF a u t k v cc := q10
    have q11 : mh_fr [o, bo, bu, fo, fu, nv, lv, oF, a, u, t] h h2 := q11
    show (∃ s', _ ∧ _ ∧ f_X9_run_b41 (n + 1) o (nI K) (nI H) oF (nI tn) h2 = _) ∨ ∃ r, _ ∧ f_X9_run_b41 (n + 1) o (nI K) (nI H) oF (nI tn) h2 = _
    obtain ⟨s1, ⟨fb, s2⟩, ⟨ff, s3⟩, fn, fl, s4, s5, s6⟩ := id q1
    have hbl := q5.1.1
    have hNL := q8 b.length (Nat.le_refl _)
    have hfn := s6 b.length (Nat.le_refl _)
    have c0 : ¬ (4000 : Int32) < nI tn := fun q => absurd ((mh_ltl (a := 4000) 4000 rfl (by omega) (by omega)).mp q) (by omega)
    have c1 : b.length < K → ¬ nI K ≤ nI b.length := fun hq q => absurd ((nI_leI (by omega) (by omega)).mp q) (by omega)
    -- nothing left at this depth
    have down : (¬ b.length < K ∨ L b.length < N b.length) → f_X9_run_b41 (n + 1) o (nI K) (nI H) oF (nI tn) h2 = f_X9_run_b105 (f_X9_run_b129 (f_X9_run_b41 n)) o (nI K) (nI H) oF (nI tn) (nI b.length) h2 := fun hq => by
      rw [f_X9_run_b41, if_neg c0, mh_gR_eq (k := 0) s1 rfl, Option.bind_some, mh_cal_eq s2.1, mh_b2_eq (mh_fx1_count s2)]
      by_cases hlt : b.length < K
      · have hq := hq.resolve_left (fun q => q hlt)
        rw [if_neg (c1 hlt), mh_gR_eq (k := 2) s1 rfl, Option.bind_some, mh_aI_eq s4 (show b.length < 7 by omega) (by omega), Option.bind_some, mh_gR_eq (k := 3) s1 rfl, Option.bind_some, mh_aI_eq s5 (show b.length < 7 by omega) (by omega), Option.bind_some, hfn.1, hfn.2, if_pos ((nI_ltI (by omega) (by omega)).mpr hq)]
      · rw [if_pos ((nI_leI (by omega) (by omega)).mpr (by omega))]
    have rest : (¬ b.length < K ∨ L b.length < N b.length) → mh_rmB H K N L b b.length (lk, rch, fnd) = ST := fun hq => by
      by_cases hlt : b.length < K
      · have hq := hq.resolve_left (fun q => q hlt)
        rw [mh_rm1_B hlt, show L b.length + 1 - N b.length = 0 by omega, mh_sl_0] at q9
        exact q9
      · cases hbz : b.length with
        | zero => omega
        | succ d =>
          rw [hbz, mh_rm1, if_neg (by omega)] at q9
          exact q9
    by_cases hdone : ¬ b.length < K ∨ L b.length < N b.length
    · by_cases hz : b.length = 0
      · right
        have hr := rest hdone
        rw [hz] at hr
        have hr : (lk, rch, fnd) = ST := hr
        rw [← hr]
        refine ⟨(1, h2), ⟨Or.inl ⟨rfl, q3, ⟨b, N, L, q1, q5⟩, q6, q7⟩, ⟨cc, q10⟩, q11⟩, ?_⟩
        rw [down hdone, hz]
        unfold f_X9_run_b105
        rw [if_pos (show nI 0 ≤ 0 by decide)]
        rfl
      · left
        have hr := rest hdone
        have hne : b ≠ [] := List.length_pos_iff.mp (by omega)
        obtain ⟨d, hbd⟩ : ∃ d, b.length = d + 1 := ⟨b.length - 1, by omega⟩
        have hpg : mh_pf b (nI (b.getD (b.length - 1) 0)) = b.length - 1 := mh_pf_get q5 (by omega)
        have hhd : mh_hd b (nI (b.getD (b.length - 1) 0)) = true := (mh_hd_iff q5 (by have := q5.1.le (b.length - 1); omega)).mpr (mh_get_mem (by omega))
        obtain ⟨h3, f3, y1, y2, y3⟩ := mh_fx1_remove s2 s2.ne (nI (b.getD (b.length - 1) 0)) hhd
        have edl : b.eraseIdx (mh_pf b (nI (b.getD (b.length - 1) 0))) = b.dropLast := by
          rw [hpg, List.eraseIdx_eq_take_drop_succ, List.drop_eq_nil_of_le (by omega), List.append_nil, List.dropLast_eq_take]
        rw [edl] at y2
        have ldl : b.dropLast.length = d := by rw [List.length_dropLast]; omega
        have n3 : o ≠ bo := mh_apt s1 s2.1 (fun q => by cases q)
        have n4 : o ≠ bu := mh_apt s1 s2.2.1 (fun q => by cases q)
        have S3 : mh_Ss h3 o bo bu fo fu nv lv b.dropLast fnd N L rch lk := ⟨(y3 o n3 n4).trans s1, ⟨f3, y2⟩, ⟨ff, s3.keep (y3 fo d2.symm (mh_apt s3.1 s2.2.1 (fun q => by cases q))) (y3 fu (mh_apt s3.2.1 s2.1 (fun q => by cases q)) d3.symm)⟩, fn, fl, (y3 nv (mh_apt s4 s2.1 (fun q => by cases q)) (mh_apt s4 s2.2.1 (fun q => by cases q))).trans s4, (y3 lv (mh_apt s5 s2.1 (fun q => by cases q)) (mh_apt s5 s2.2.1 (fun q => by cases q))).trans s5, fun i hi => s6 i (by omega)⟩
        have fr3 : mh_fr [bo, bu] h2 h3 := fun x hx => y3 x (fun q => hx (by simp [q])) (fun q => hx (by simp [q]))
        have F3 : mh_Fe h3 oF a u t k v cc := by
          obtain ⟨fc, ft, fv, x, tn', kn, r1, r2, r3, r4, r5, r6, r7, r8, r9⟩ := q10
          have ek := fr3 k (by simp [mh_apt r4 s2.1 (fun q => by cases q), mh_apt r4 s2.2.1 (fun q => by cases q)])
          have ev := fr3 v (by simp [mh_apt r5 s2.1 (fun q => by cases q), mh_apt r5 s2.2.1 (fun q => by cases q)])
          refine ⟨fc, ft, fv, x, tn', kn, (fr3 oF (by simp [mh_apt r1 s2.1 (fun q => by cases q), mh_apt r1 s2.2.1 (fun q => by cases q)])).trans r1, r2.keep (fr3 a (by simp [d4.symm, mh_apt r2.1 s2.2.1 (fun q => by cases q)])) (fr3 u (by simp [mh_apt r2.2.1 s2.1 (fun q => by cases q), d5.symm])), (fr3 t (by simp [mh_apt r3 s2.1 (fun q => by cases q), mh_apt r3 s2.2.1 (fun q => by cases q)])).trans r3, ek.trans r4, ev.trans r5, r6, r7, r8, ?_⟩
          rcases r9 with r9 | ⟨r9, r10⟩
          · exact Or.inl r9
          · refine Or.inr ⟨r9, fun hne => ?_⟩
            obtain ⟨w, w1, w2⟩ := r10 hne
            exact ⟨w, w1.keep ek ev, w2⟩
        have tk : ∀ i, i ≤ d → b.dropLast.take i = b.take i := fun i hi => by
          rw [List.dropLast_eq_take, List.take_take, Nat.min_eq_left (by omega)]
        have lkp : lk ≠ 0 := fun q => by omega
        refine ⟨(tn + 1, h3), ⟨by show tn + 1 ≤ 4000; omega, b.dropLast, fnd, N, L, rch, lk, S3, by show tn + 1 + b.dropLast.length = 2 * lk; omega, q3, by omega, mh_ms_sub q5 (List.dropLast_sublist b), q6, q7, fun i hi => ?_, ?_, ⟨cc, F3⟩, q11.trans (fr3.sub (by simp))⟩, by show 4001 - (tn + 1) < 4001 - tn; omega, ?_⟩
        · rw [ldl] at hi
          have := q8 i (by omega)
          exact ⟨this.1, this.2.1, this.2.2.1, fun x hx => this.2.2.2 x (by rw [tk i hi] at hx; exact hx)⟩
        · rw [ldl, mh_rm1_congr (N' := N) (L' := L) (b' := b) d _ (fun i _ => ⟨rfl, rfl⟩) tk]
          rw [hbd] at hr
          exact hr
        · rw [down hdone]
          unfold f_X9_run_b105
          rw [if_neg (nI_nle (by omega) (by omega)), mh_gR_eq (k := 0) s1 rfl, Option.bind_some, Option.bind_some, mh_cal_eq s2.1, mh_b2_eq (mh_fx1_greatest s2), mh_cal_eq s2.1, y1, Option.bind_some]
          unfold f_X9_run_b129
          rw [mh_nm_eq, mh_inc]
    · have hlt : b.length < K := Classical.byContradiction (fun q => hdone (Or.inl q))
      have hle : N b.length ≤ L b.length := Nat.le_of_not_lt (fun q => hdone (Or.inr q))
      rw [mh_rm1_B hlt, List.take_length, show L b.length + 1 - N b.length = (L b.length - N b.length) + 1 by omega, mh_sl_s (show lk ≤ 2000 from q3)] at q9
      have pre : f_X9_run_b41 (n + 1) o (nI K) (nI H) oF (nI tn) h2 = (if nI lk = (2000 : Int32) then f_X9_run_b91 h2 else (f_X9_lookAt_e o (nI b.length) (nI K) (nI H) oF h2).bind fun h15 => f_X9_run_b129 (f_X9_run_b41 n) o (nI K) (nI H) oF (nI tn) h15) := by
        rw [f_X9_run_b41, if_neg c0, mh_gR_eq (k := 0) s1 rfl, Option.bind_some, mh_cal_eq s2.1, mh_b2_eq (mh_fx1_count s2), if_neg (c1 hlt), mh_gR_eq (k := 2) s1 rfl, Option.bind_some, mh_aI_eq s4 (show b.length < 7 by omega) (by omega), Option.bind_some, mh_gR_eq (k := 3) s1 rfl, Option.bind_some, mh_aI_eq s5 (show b.length < 7 by omega) (by omega), Option.bind_some, hfn.1, hfn.2, if_neg (fun q => absurd ((nI_ltI (by omega) (by omega)).mp q) (by omega)), mh_gI_eq (k := 5) s1 rfl, Option.bind_some, mh_cal_eq s1]
      by_cases h2000 : lk = 2000
      · right
        have hST2 : 2000 < ST.1 := by
          rw [mh_se_over (show 2000 ≤ (lk, rch, fnd).1 by show 2000 ≤ lk; omega), mh_sl_stop _ _ _ (show 2000 < lk + 1 by omega)] at q9
          have stopB : ∀ d st, 2000 < st.1 → mh_rmB H K N L b d st = st := fun d st hst => by
            cases d with
            | zero => rfl
            | succ d => exact mh_rm1_stop d st hst
          rw [stopB _ _ (show 2000 < lk + 1 by omega)] at q9
          rw [← q9]
          show 2000 < lk + 1
          omega
        refine ⟨(0, h2), ⟨Or.inr ⟨rfl, hST2, b, fnd, N, L, rch, by rw [h2000] at q1; exact q1, q5, q6, q7⟩, ⟨cc, q10⟩, q11⟩, ?_⟩
        rw [pre, if_pos (by rw [h2000]; rfl)]
        rfl
      · left
        obtain ⟨h3, y1, y2, y3, y4, y5⟩ := mh_fx9_lookAt hd0 q1 q10 (K := K) (H := H) q5 hlt hK hH hNL.1 (by omega) (fun x hx => hNL.2.2.2 x (by rw [List.take_length]; exact hx)) q7 q3
        have ms2 : mh_ms (b ++ [N b.length]) := mh_ms_app q5 (by omega) hNL.1 (by omega) (fun x hx => hNL.2.2.2 x (by rw [List.take_length]; exact hx))
        have len2 : (b ++ [N b.length]).length = b.length + 1 := by rw [List.length_append]; rfl
        have tkb : ∀ i, i ≤ b.length → (b ++ [N b.length]).take i = b.take i := fun i hi => List.take_append_of_le_length hi
        refine ⟨(tn + 1, h3), ⟨by show tn + 1 ≤ 4000; omega, _, _, _, _, _, _, y2, by show tn + 1 + (b ++ [N b.length]).length = 2 * (lk + 1); omega, by show lk + 1 ≤ 2000; omega, by rw [len2]; omega, ms2, ?_, ?_, fun i hi => ?_, ?_, ⟨_, y3⟩, q11.trans y5⟩, by show 4001 - (tn + 1) < 4001 - tn; omega, ?_⟩
        · by_cases hq : b.length + 1 = K ∧ rch < mh_rh (b ++ [N b.length]) H
          · rw [if_pos hq]; exact ms2
          · rw [if_neg hq]; exact q6
        · by_cases hq : b.length + 1 = K ∧ rch < mh_rh (b ++ [N b.length]) H
          · rw [if_pos hq]; exact y4
          · rw [if_neg hq]; exact q7
        · rw [len2] at hi
          unfold mh_fu1
          by_cases h1 : i = b.length + 1
          · rw [if_pos h1, if_pos h1, h1, ← len2, List.take_length]
            refine ⟨by omega, by omega, Nat.min_le_right _ _, fun x hx => ?_⟩
            rcases List.mem_append.mp hx with q | q
            · have := hNL.2.2.2 x (by rw [List.take_length]; exact q); omega
            · rw [List.mem_singleton.mp q]; omega
          · rw [if_neg h1, if_neg h1]
            have hqi := q8 i (by omega)
            by_cases h2 : i = b.length
            · rw [if_pos h2, h2, tkb _ (Nat.le_refl _)]
              exact ⟨by omega, by omega, hNL.2.2.1, fun x hx => by have := hNL.2.2.2 x hx; omega⟩
            · rw [if_neg h2, tkb i (by omega)]; exact hqi
        · rw [len2, mh_rm1, ← q9]
          -- what the look gives
          have est : mh_se H (K - b.length - 1) (b ++ [N b.length]) (lk, rch, fnd) = (if b.length + 1 < K then mh_sl H (K - (b.length + 1) - 1) ((b ++ [N b.length]).take (b.length + 1)) (mh_fu1 (mh_fu1 N b.length (N b.length + 1)) (b.length + 1) (N b.length + 1) (b.length + 1)) (mh_fu1 L (b.length + 1) (min (mh_rh (b ++ [N b.length]) H + 1) 300) (b.length + 1) + 1 - mh_fu1 (mh_fu1 N b.length (N b.length + 1)) (b.length + 1) (N b.length + 1) (b.length + 1)) (lk + 1, (if b.length + 1 = K ∧ rch < mh_rh (b ++ [N b.length]) H then mh_rh (b ++ [N b.length]) H else rch), (if b.length + 1 = K ∧ rch < mh_rh (b ++ [N b.length]) H then b ++ [N b.length] else fnd)) else (lk + 1, (if b.length + 1 = K ∧ rch < mh_rh (b ++ [N b.length]) H then mh_rh (b ++ [N b.length]) H else rch), (if b.length + 1 = K ∧ rch < mh_rh (b ++ [N b.length]) H then b ++ [N b.length] else fnd))) := by
            by_cases hk2 : b.length + 1 < K
            · rw [if_pos hk2, if_neg (fun q => by omega), if_neg (fun q => by omega), ← len2, List.take_length, show K - b.length - 1 = (K - (b ++ [N b.length]).length - 1) + 1 by omega, mh_se_node (show lk < 2000 by omega)]
              have eg : (b ++ [N b.length]).getD ((b ++ [N b.length]).length - 1) 0 = N b.length := by
                rw [mh_getD_app, len2, if_neg (by omega), if_pos (by omega)]
              have e1 : mh_fu1 (mh_fu1 N b.length (N b.length + 1)) (b ++ [N b.length]).length (N b.length + 1) (b ++ [N b.length]).length = N b.length + 1 := if_pos rfl
              have e2 : mh_fu1 L (b ++ [N b.length]).length (min (mh_rh (b ++ [N b.length]) H + 1) 300) (b ++ [N b.length]).length = min (mh_rh (b ++ [N b.length]) H + 1) 300 := if_pos rfl
              rw [eg, e1, e2, show min (mh_rh (b ++ [N b.length]) H + 1) 300 + 1 - (N b.length + 1) = min (mh_rh (b ++ [N b.length]) H + 1) 300 - N b.length by omega]
            · have hk3 : b.length + 1 = K := by omega
              rw [if_neg hk2, show K - b.length - 1 = 0 by omega, mh_se_leaf (show lk < 2000 by omega)]
              by_cases hq : rch < mh_rh (b ++ [N b.length]) H
              · rw [if_pos hq, if_pos ⟨hk3, hq⟩, if_pos ⟨hk3, hq⟩]
              · rw [if_neg hq, if_neg (fun q => hq q.2), if_neg (fun q => hq q.2)]
          rw [← est, mh_rm1_B hlt]
          have e3 : mh_fu1 (mh_fu1 N b.length (N b.length + 1)) (b.length + 1) (N b.length + 1) b.length = N b.length + 1 := by
            unfold mh_fu1
            rw [if_neg (by omega), if_pos rfl]
          have e4 : mh_fu1 L (b.length + 1) (min (mh_rh (b ++ [N b.length]) H + 1) 300) b.length = L b.length := by
            unfold mh_fu1
            rw [if_neg (by omega)]
          rw [e3, e4, tkb _ (Nat.le_refl _), List.take_length, show L b.length + 1 - (N b.length + 1) = L b.length - N b.length by omega]
          refine mh_rmB_congr (fun i hi => ?_) (fun i hi => tkb i (by omega))
          unfold mh_fu1
          rw [if_neg (by omega), if_neg (by omega), if_neg (by omega)]
          exact ⟨rfl, rfl⟩
        · rw [pre, if_neg (fun q => h2000 ((mh_eqr (b := 2000) 2000 rfl (by omega) (by omega)).mp q)), y1, Option.bind_some]
          unfold f_X9_run_b129
          rw [mh_nm_eq, mh_inc]
  -- the start
  obtain ⟨s1, ⟨fb, s2⟩, ⟨ff, s3⟩, fn, fl, s4, s5, s6⟩ := hS
  have n1 : o ≠ nv := mh_apt s1 s4 (fun q => by cases q)
  have n2 : o ≠ lv := mh_apt s1 s5 (fun q => by cases q)
  have n3 : o ≠ bo := mh_apt s1 s2.1 (fun q => by cases q)
  have n5 : o ≠ fo := mh_apt s1 s3.1 (fun q => by cases q)
  have n7 : nv ≠ bo := mh_apt s4 s2.1 (fun q => by cases q)
  have n9 : nv ≠ fo := mh_apt s4 s3.1 (fun q => by cases q)
  have n11 : lv ≠ bo := mh_apt s5 s2.1 (fun q => by cases q)
  have n13 : lv ≠ fo := mh_apt s5 s3.1 (fun q => by cases q)
  have b2 : bu ≠ o := mh_apt s2.2.1 s1 (fun q => by cases q)
  have b3 : bu ≠ bo := mh_apt s2.2.1 s2.1 (fun q => by cases q)
  have b4 : bu ≠ fo := mh_apt s2.2.1 s3.1 (fun q => by cases q)
  have b5 : bu ≠ nv := mh_apt s2.2.1 s4 (fun q => by cases q)
  have b6 : bu ≠ lv := mh_apt s2.2.1 s5 (fun q => by cases q)
  have f2 : fu ≠ o := mh_apt s3.2.1 s1 (fun q => by cases q)
  have f3 : fu ≠ bo := mh_apt s3.2.1 s2.1 (fun q => by cases q)
  have f4 : fu ≠ fo := mh_apt s3.2.1 s3.1 (fun q => by cases q)
  have f5 : fu ≠ nv := mh_apt s3.2.1 s4 (fun q => by cases q)
  have f6 : fu ≠ lv := mh_apt s3.2.1 s5 (fun q => by cases q)
  obtain ⟨x1, x2⟩ := mh_fx1_clear s2 s2.ne
  have s1' : (mh_up h bo (.inr (1, [.ref bu, .int (nI 0)]))) o = some (.inr (9, [.ref bo, .ref fo, .ref nv, .ref lv, .int (nI rch0), .int (nI lk0)])) := by rw [mh_up_ne n3]; exact s1
  have s3' : mh_Co (mh_up h bo (.inr (1, [.ref bu, .int (nI 0)]))) fo fu ff fnd0 := s3.keep (mh_up_ne d2.symm) (mh_up_ne f3)
  obtain ⟨x3, x4⟩ := mh_fx1_clear s3' s3'.ne
  have s1'' : (mh_up (mh_up h bo (.inr (1, [.ref bu, .int (nI 0)]))) fo (.inr (1, [.ref fu, .int (nI 0)]))) o = some (.inr (9, [.ref bo, .ref fo, .ref nv, .ref lv, .int (nI rch0), .int (nI lk0)])) := by rw [mh_up_ne n5]; exact s1'
  obtain ⟨h5, hh5⟩ : ∃ h5, h5 = mh_up (mh_up (mh_up h bo (.inr (1, [.ref bu, .int (nI 0)]))) fo (.inr (1, [.ref fu, .int (nI 0)]))) o (.inr (9, [.ref bo, .ref fo, .ref nv, .ref lv, .int 0, .int 0])) := ⟨_, rfl⟩
  have g5 : h5 o = some (.inr (9, [.ref bo, .ref fo, .ref nv, .ref lv, .int 0, .int 0])) := by rw [hh5]; exact mh_up_eq _ _ _
  have gn5 : h5 nv = some (.inl (0, 7, .inl fn)) := by rw [hh5, mh_up_ne n1.symm, mh_up_ne n9, mh_up_ne n7]; exact s4
  have gl5 : h5 lv = some (.inl (0, 7, .inl fl)) := by rw [hh5, mh_up_ne n2.symm, mh_up_ne n13, mh_up_ne n11]; exact s5
  have gb5 : mh_Co h5 bo bu fb [] := by rw [hh5]; exact x2.keep (by rw [mh_up_ne n3.symm, mh_up_ne d2]) (by rw [mh_up_ne b2, mh_up_ne b4])
  have gf5 : mh_Co h5 fo fu ff [] := by rw [hh5]; exact x4.keep (mh_up_ne n5.symm) (mh_up_ne f2)
  obtain ⟨h7, hh7⟩ : ∃ h7, h7 = mh_up (mh_up h5 nv (.inl (0, 7, .inl (upd fn 0 1)))) lv (.inl (0, 7, .inl (upd fl 0 1))) := ⟨_, rfl⟩
  have e1 := mh_sI_eq (v := (1 : Int32)) gn5 (j := 0) (by omega) (by omega)
  have e2 := mh_sI_eq (v := (1 : Int32)) (show (mh_up h5 nv (.inl (0, 7, .inl (upd fn 0 1)))) lv = some (.inl (0, 7, .inl fl)) by rw [mh_up_ne d1.symm]; exact gl5) (j := 0) (by omega) (by omega)
  rw [nI_0] at e1 e2
  have fr7 : mh_fr [o, bo, bu, fo, fu, nv, lv] h h7 := by
    rw [hh7, hh5]
    exact ((((mh_fr.up (by simp)).trans (mh_fr.up (by simp))).trans (mh_fr.up (by simp))).trans (mh_fr.up (by simp))).trans (mh_fr.up (by simp))
  have S7 : mh_Ss h7 o bo bu fo fu nv lv [] [] (fun _ => 1) (fun _ => 1) 0 0 := by
    refine ⟨by rw [hh7, mh_up_ne n2, mh_up_ne n1]; exact g5, ⟨fb, by rw [hh7]; exact gb5.keep (by rw [mh_up_ne n11.symm, mh_up_ne n7.symm]) (by rw [mh_up_ne b6, mh_up_ne b5])⟩, ⟨ff, by rw [hh7]; exact gf5.keep (by rw [mh_up_ne n13.symm, mh_up_ne n9.symm]) (by rw [mh_up_ne f6, mh_up_ne f5])⟩, upd fn 0 1, upd fl 0 1, by rw [hh7, mh_up_ne d1]; exact mh_up_eq _ _ _, by rw [hh7]; exact mh_up_eq _ _ _, fun i hi => ?_⟩
    have hi : i ≤ 0 := hi
    rw [show i = 0 by omega, pk_us, pk_us]
    exact ⟨rfl, rfl⟩
  have F7 : mh_Fe h7 oF a u t k v cF := by
    obtain ⟨fc, ft, fv, x, tn', kn, r1, r2, r3, r4, r5, r6, r7, r8, r9⟩ := hF
    have off : ∀ {y : Nat} {e : mh_E}, h y = some e → (∀ fs, e ≠ .inr (9, fs)) → (∀ fs, e ≠ .inr (1, fs)) → (∀ z, e ≠ .inl (0, 7, z)) → (∀ z, e ≠ .inl (0, 12, z)) → h7 y = h y := fun {y e} hy p1 p2 p3 p4 => fr7 y (by
      simp only [List.mem_cons, List.not_mem_nil, or_false, not_or]
      exact ⟨mh_apt hy s1 (p1 _), mh_apt hy s2.1 (p2 _), mh_apt hy s2.2.1 (p4 _), mh_apt hy s3.1 (p2 _), mh_apt hy s3.2.1 (p4 _), mh_apt hy s4 (p3 _), mh_apt hy s5 (p3 _)⟩)
    have ek := off r4 (fun _ q => by cases q) (fun _ q => by cases q) (fun _ q => by cases q) (fun _ q => by cases q)
    have ev := off r5 (fun _ q => by cases q) (fun _ q => by cases q) (fun _ q => by cases q) (fun _ q => by cases q)
    have ea : h7 a = h a := fr7 a (by
      simp only [List.mem_cons, List.not_mem_nil, or_false, not_or]
      exact ⟨mh_apt r2.1 s1 (fun q => by cases q), d4.symm, mh_apt r2.1 s2.2.1 (fun q => by cases q), d6.symm, mh_apt r2.1 s3.2.1 (fun q => by cases q), mh_apt r2.1 s4 (fun q => by cases q), mh_apt r2.1 s5 (fun q => by cases q)⟩)
    have eu : h7 u = h u := fr7 u (by
      simp only [List.mem_cons, List.not_mem_nil, or_false, not_or]
      exact ⟨mh_apt r2.2.1 s1 (fun q => by cases q), mh_apt r2.2.1 s2.1 (fun q => by cases q), d5.symm, mh_apt r2.2.1 s3.1 (fun q => by cases q), d7.symm, mh_apt r2.2.1 s4 (fun q => by cases q), mh_apt r2.2.1 s5 (fun q => by cases q)⟩)
    refine ⟨fc, ft, fv, x, tn', kn, (off r1 (fun _ q => by cases q) (fun _ q => by cases q) (fun _ q => by cases q) (fun _ q => by cases q)).trans r1, r2.keep ea eu, (off r3 (fun _ q => by cases q) (fun _ q => by cases q) (fun _ q => by cases q) (fun _ q => by cases q)).trans r3, ek.trans r4, ev.trans r5, r6, r7, r8, ?_⟩
    rcases r9 with r9 | ⟨r9, r10⟩
    · exact Or.inl r9
    · refine Or.inr ⟨r9, fun hne => ?_⟩
      obtain ⟨w, w1, w2⟩ := r10 hne
      exact ⟨w, w1.keep ek ev, w2⟩
  obtain ⟨r, z1, z2⟩ := main h7 cF ⟨fun _ => 1, fun _ => 1, S7, rfl, rfl⟩ F7 (fr7.sub (by simp))
  refine ⟨r, ?_, z1⟩
  rw [nI_0] at z2
  have g45 : (mh_up (mh_up h bo (.inr (1, [.ref bu, .int (nI 0)]))) fo (.inr (1, [.ref fu, .int (nI 0)]))) o = some (.inr (9, [.ref bo, .ref fo, .ref nv, .ref lv, .int (nI rch0), .int (nI lk0)])) := s1''
  unfold f_X9_run_e
  rw [mh_gR_eq (k := 0) s1 rfl, Option.bind_some, mh_cal_eq s2.1, x1, Option.bind_some, mh_gR_eq (k := 1) s1' rfl, Option.bind_some, mh_cal_eq s3'.1, x3, Option.bind_some, mh_pI_s [.ref bo, .ref fo, .ref nv, .ref lv, .int 0, .int (nI lk0)] g45 ⟨Nat.le_of_ble_eq_true rfl, rfl⟩, Option.bind_some, mh_pI_s [.ref bo, .ref fo, .ref nv, .ref lv, .int 0, .int 0] (mh_up_eq _ _ _) ⟨Nat.le_of_ble_eq_true rfl, rfl⟩, Option.bind_some, mh_up_up, ← hh5, mh_gR_eq (k := 2) g5 rfl, Option.bind_some, e1, Option.bind_some, mh_gR_eq (k := 3) (show (mh_up h5 nv (.inl (0, 7, .inl (upd fn 0 1)))) o = some (.inr (9, [.ref bo, .ref fo, .ref nv, .ref lv, .int 0, .int 0])) by rw [mh_up_ne n1]; exact g5) rfl, Option.bind_some, e2, Option.bind_some, ← hh7, mh_nm_eq]
  exact z2
end MhRun
