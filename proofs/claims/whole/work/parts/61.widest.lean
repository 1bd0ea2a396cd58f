section MhWide
variable {h : mh_H} {o cv nv lv op : Nat} {pr : Nat → Nat}
theorem mh_fx6_nearestLeft {fn fl : Nat → Int32} {near : Nat → Nat} {led : Nat → Bool} {N : Nat} (ho : h o = some (.inr (6, [.ref cv, .ref nv, .ref lv, .ref op, .int (nI N)]))) (hn : h nv = some (.inl (0, 200, .inl fn))) (hl : h lv = some (.inl (2, 200, .inl fl))) (hN : N ≤ 200) (h1 : ∀ p, p < N → fn p = nI (near p) ∧ near p < 2 ^ 30) (h2 : ∀ p, p < N → fl p = mh_bz (led p)) :
    f_X6_nearestLeft_e o h = some (nI ((mh_nl led near N).getD 0), h) := by
  have key := mh_wh (fun n (i : Nat) => f_X6_nearestLeft_b4 n o (mh_sz (mh_nl led near i)) (nI i) h) (fun (r : Int32 × mh_H) => some r) (fun i => i ≤ N) (fun i => N - i) (fun r => r = (nI ((mh_nl led near N).getD 0), h))
    (fun n i hi => by
      have ok := mh_nl_ok (led := led) (near := near) i
      show (∃ s', _ ∧ _ ∧ f_X6_nearestLeft_b4 (n + 1) o (mh_sz (mh_nl led near i)) (nI i) h = _) ∨ ∃ r, _ ∧ f_X6_nearestLeft_b4 (n + 1) o (mh_sz (mh_nl led near i)) (nI i) h = _
      by_cases hc : i < N
      · left
        refine ⟨i + 1, hc, by omega, ?_⟩
        have c1 : ¬ nI N ≤ nI i := fun q => absurd ((nI_leI (by omega) (by omega)).mp q) (by omega)
        rw [f_X6_nearestLeft_b4, mh_gI_eq (k := 4) ho rfl, Option.bind_some, if_neg c1, mh_gR_eq (k := 2) ho rfl, Option.bind_some, mh_aI_eq hl (by omega) (by omega), Option.bind_some, h2 i hc, mh_nl]
        by_cases hq : led i = true
        · rw [hq, if_neg (show ¬ mh_bz true = 0 by decide)]
          unfold f_X6_nearestLeft_b43
          rw [mh_nm_eq, mh_inc]
          cases mh_nl led near i with
          | none => rfl
          | some f => rfl
        · have hq : led i = false := by simpa using hq
          rw [hq, if_pos mh_bz_f]
          cases hm : mh_nl led near i with
          | none =>
            rw [if_pos (show mh_sz none = (-1 : Int32) from rfl)]
            unfold f_X6_nearestLeft_b41 f_X6_nearestLeft_b43
            rw [mh_nm_eq, mh_inc]
            rfl
          | some f =>
            have hf := (ok.1 f hm).1
            have c2 : ¬ mh_sz (some f) = (-1 : Int32) := mh_nI_m1 (by omega)
            have hfn := h1 f (by omega)
            have hin := h1 i hc
            rw [if_neg c2]
            show ((mh_gR h o 6 1).bind fun a5 => (mh_aI h a5 0 (nI i)).bind fun v6 => (mh_gR h o 6 1).bind fun a7 => (mh_aI h a7 0 (nI f)).bind fun v8 => if v8 ≤ v6 then f_X6_nearestLeft_b43 (f_X6_nearestLeft_b4 n) o (nI f) (nI i) h else f_X6_nearestLeft_b41 (f_X6_nearestLeft_b43 (f_X6_nearestLeft_b4 n)) o (nI i) h) = f_X6_nearestLeft_b4 n o (mh_sz (if false = false ∧ near i < near f then some i else some f)) (nI (i + 1)) h
            rw [mh_gR_eq (k := 1) ho rfl, Option.bind_some, mh_aI_eq hn (show i < 200 by omega) (by omega), Option.bind_some, Option.bind_some, mh_aI_eq hn (show f < 200 by omega) (by omega), Option.bind_some, hfn.1, hin.1]
            by_cases hlt : near i < near f
            · rw [if_neg (fun q => absurd ((nI_leI (by omega) (by omega)).mp q) (by omega)), if_pos ⟨rfl, hlt⟩]
              unfold f_X6_nearestLeft_b41 f_X6_nearestLeft_b43
              rw [mh_nm_eq, mh_inc]
              rfl
            · rw [if_pos ((nI_leI (by omega) (by omega)).mpr (by omega)), if_neg (fun q => hlt q.2)]
              unfold f_X6_nearestLeft_b43
              rw [mh_nm_eq, mh_inc]
              rfl
      · right
        have e : i = N := by omega
        subst e
        refine ⟨_, rfl, ?_⟩
        rw [f_X6_nearestLeft_b4, mh_gI_eq (k := 4) ho rfl, Option.bind_some, if_pos ((nI_leI (by omega) (by omega)).mpr (Nat.le_refl _))]
        unfold f_X6_nearestLeft_b49
        cases hm : mh_nl led near i with
        | none => rfl
        | some f =>
          have hf := (ok.1 f hm).1
          show some ((if (0 : Int32) < nI f then nI f else (0 : Int32)), h) = some (nI f, h)
          by_cases hz : f = 0
          · rw [hz]; rfl
          · rw [if_pos ((mh_ltl (a := 0) 0 rfl (by omega) (by omega)).mpr (by omega))]) N mh_fu 0 (by omega) (Nat.zero_le _) (mh_fuel _ (by omega))
  obtain ⟨r, r1, r2⟩ := key
  rw [r1] at r2
  exact r2
theorem mh_df_le {x y : List Nat} (hx : ∀ i, i < 12 → x.getD i 0 ≤ 3000) (hy : ∀ i, i < 12 → y.getD i 0 ≤ 3000) : mh_df x y ≤ 36000 := by
  have b1 := mh_sumr_leb (g := mh_sub1 x y) (B := 3000) 12 (fun r hr => by have := hx r hr; unfold mh_sub1; omega)
  have b2 := mh_sumr_leb (g := mh_sub1 y x) (B := 3000) 12 (fun r hr => by have := hy r hr; unfold mh_sub1; omega)
  unfold mh_df
  omega
theorem mh_pm_b {N : Nat} {d : Nat → Nat → Nat} {B : Nat} (hd : ∀ p q, p < N → q < N → d p q ≤ B) (h0 : 0 < N) : ∀ t, (∀ p, p < N → (mh_pm N d t).2.1 p ≤ B) ∧ (mh_pm N d t).2.2 ≤ B := by
  intro t
  induction t with
  | zero => exact ⟨fun p hp => hd 0 p h0 hp, Nat.zero_le _⟩
  | succ t ih =>
    have hx : (mh_nl (mh_pm N d t).1 (mh_pm N d t).2.1 N).getD 0 < N := by
      cases hm : mh_nl (mh_pm N d t).1 (mh_pm N d t).2.1 N with
      | none => exact h0
      | some x => exact ((mh_nl_ok N).1 x hm).1
    rw [mh_pm]
    exact ⟨fun p hp => Nat.le_trans (Nat.min_le_left _ _) (ih.1 p hp), Nat.max_le.mpr ⟨ih.2, ih.1 _ hx⟩⟩
theorem mh_fx6_widestStep {g : Nat → Nat → Int32} {V : Nat → List Nat} {N : Nat} {fn0 fl0 : Nat → Int32} (ho : h o = some (.inr (6, [.ref cv, .ref nv, .ref lv, .ref op, .int (nI N)]))) (hO : mh_Oi h cv pr 200) (hR : mh_Ri h pr 200 12 g) (hn : h nv = some (.inl (0, 200, .inl fn0))) (hl : h lv = some (.inl (2, 200, .inl fl0))) (h1 : 1 ≤ N) (hN : N ≤ 200) (hV : ∀ r i, r < N → i < 12 → g r i = nI ((V r).getD i 0) ∧ (V r).getD i 0 ≤ 3000) :
    ∃ h' fn fl, f_X6_widestStep_e o h = some (nI (mh_pm N (fun p q => mh_df (V p) (V q)) (N - 1)).2.2, h') ∧ h' nv = some (.inl (0, 200, .inl fn)) ∧ h' lv = some (.inl (2, 200, .inl fl)) ∧ mh_fr [nv, lv] h h' := by
  have n1 : o ≠ nv := mh_apt ho hn (fun q => by cases q)
  have n2 : o ≠ lv := mh_apt ho hl (fun q => by cases q)
  have n3 : cv ≠ nv := mh_apt hO hn (fun q => by cases q)
  have n4 : cv ≠ lv := mh_apt hO hl (fun q => by cases q)
  have n5 : ∀ j, j < 200 → pr j ≠ nv := fun j hj => mh_apt (hR j hj) hn (fun q => by cases q)
  have n6 : ∀ j, j < 200 → pr j ≠ lv := fun j hj => mh_apt (hR j hj) hl (fun q => by cases q)
  have n7 : nv ≠ lv := mh_apt hn hl (fun q => by cases q)
  have dB : ∀ p q, p < N → q < N → mh_df (V p) (V q) ≤ 36000 := fun p q hp hq => mh_df_le (fun i hi => (hV p i hp hi).2) (fun i hi => (hV q i hq hi).2)
  have ko : ∀ h', mh_fr [nv, lv] h h' → h' o = some (.inr (6, [.ref cv, .ref nv, .ref lv, .ref op, .int (nI N)])) := fun h' hf => (hf o (by simp [n1, n2])).trans ho
  have kO : ∀ h', mh_fr [nv, lv] h h' → mh_Oi h' cv pr 200 := fun h' hf => (hf cv (by simp [n3, n4])).trans hO
  have kR : ∀ h', mh_fr [nv, lv] h h' → mh_Ri h' pr 200 12 g := fun h' hf j hj => (hf (pr j) (by simp [n5 j hj, n6 j hj])).trans (hR j hj)
  have kd : ∀ h', mh_fr [nv, lv] h h' → ∀ p q, p < N → q < N → f_X6_difference_e o (nI p) (nI q) h' = some (nI (mh_df (V p) (V q)), h') := fun h' hf p q hp hq => mh_fx6_difference (ko h' hf) (kO h' hf) (kR h' hf) hN hV hp hq
  -- the second loop
  have L2 : ∀ (h1' : mh_H) (fn fl : Nat → Int32), mh_fr [nv, lv] h h1' → h1' nv = some (.inl (0, 200, .inl fn)) → h1' lv = some (.inl (2, 200, .inl fl)) → (∀ p, p < N → fn p = nI ((mh_pm N (fun p q => mh_df (V p) (V q)) 0).2.1 p)) → (∀ p, p < N → fl p = mh_bz ((mh_pm N (fun p q => mh_df (V p) (V q)) 0).1 p)) → ∃ r : mh_H × (Nat → Int32) × (Nat → Int32), (r.1 nv = some (.inl (0, 200, .inl r.2.1)) ∧ r.1 lv = some (.inl (2, 200, .inl r.2.2)) ∧ mh_fr [nv, lv] h r.1) ∧ f_X6_widestStep_b47 mh_fu o (nI 0) (nI 1) h1' = some (nI (mh_pm N (fun p q => mh_df (V p) (V q)) (N - 1)).2.2, r.1) := by
    intro h1' fn fl hf hn1 hl1 hfn hfl
    refine mh_wh (fun n (q : Nat × mh_H) => f_X6_widestStep_b47 n o (nI (mh_pm N (fun p q => mh_df (V p) (V q)) q.1).2.2) (nI (q.1 + 1)) q.2) (fun (r : mh_H × (Nat → Int32) × (Nat → Int32)) => some (nI (mh_pm N (fun p q => mh_df (V p) (V q)) (N - 1)).2.2, r.1))
      (fun q => q.1 ≤ N - 1 ∧ (∃ fn fl, q.2 nv = some (.inl (0, 200, .inl fn)) ∧ q.2 lv = some (.inl (2, 200, .inl fl)) ∧ (∀ p, p < N → fn p = nI ((mh_pm N (fun p q => mh_df (V p) (V q)) q.1).2.1 p)) ∧ (∀ p, p < N → fl p = mh_bz ((mh_pm N (fun p q => mh_df (V p) (V q)) q.1).1 p))) ∧ mh_fr [nv, lv] h q.2) (fun q => N - 1 - q.1) _ (fun n q hq => ?_) 200 mh_fu (0, h1') (by show N - 1 - 0 ≤ 200; omega) ⟨Nat.zero_le _, ⟨fn, fl, hn1, hl1, hfn, hfl⟩, hf⟩ (mh_fuel _ (by omega))
    obtain ⟨t, h2⟩ := q
    obtain ⟨q1, ⟨fn, fl, q2, q3, q4, q5⟩, q6⟩ := hq
    have q1 : t ≤ N - 1 := q1
    have q2 : h2 nv = some (.inl (0, 200, .inl fn)) := q2
    have q3 : h2 lv = some (.inl (2, 200, .inl fl)) := q3
    have q4 : ∀ p, p < N → fn p = nI ((mh_pm N (fun p q => mh_df (V p) (V q)) t).2.1 p) := q4
    have q5 : ∀ p, p < N → fl p = mh_bz ((mh_pm N (fun p q => mh_df (V p) (V q)) t).1 p) := q5
    have q6 : mh_fr [nv, lv] h h2 := q6
    show (∃ s', _ ∧ _ ∧ f_X6_widestStep_b47 (n + 1) o (nI (mh_pm N (fun p q => mh_df (V p) (V q)) t).2.2) (nI (t + 1)) h2 = _) ∨ ∃ r, _ ∧ f_X6_widestStep_b47 (n + 1) o (nI (mh_pm N (fun p q => mh_df (V p) (V q)) t).2.2) (nI (t + 1)) h2 = _
    have wo := ko h2 q6
    by_cases hc : t + 1 < N
    · left
      have bb := mh_pm_b (d := fun p q => mh_df (V p) (V q)) dB (by omega) t
      obtain ⟨x, x1, x2, x3⟩ := mh_pm_next (d := fun p q => mh_df (V p) (V q)) hc
      have enl := mh_fx6_nearestLeft wo q2 q3 hN (fun p hp => ⟨q4 p hp, by have := bb.1 p hp; omega⟩) q5
      rw [x1] at enl
      have enl : f_X6_nearestLeft_e o h2 = some (nI x, h2) := enl
      have c1 : ¬ nI N ≤ nI (t + 1) := fun q => absurd ((nI_leI (by omega) (by omega)).mp q) (by omega)
      have bx := bb.1 x x2
      have ew : (if nI (mh_pm N (fun p q => mh_df (V p) (V q)) t).2.2 < nI ((mh_pm N (fun p q => mh_df (V p) (V q)) t).2.1 x) then nI ((mh_pm N (fun p q => mh_df (V p) (V q)) t).2.1 x) else nI (mh_pm N (fun p q => mh_df (V p) (V q)) t).2.2) = nI (mh_pm N (fun p q => mh_df (V p) (V q)) (t + 1)).2.2 := by
        rw [mh_pm, x1]
        show _ = nI (max (mh_pm N (fun p q => mh_df (V p) (V q)) t).2.2 ((mh_pm N (fun p q => mh_df (V p) (V q)) t).2.1 x))
        have := bb.2
        by_cases hq : (mh_pm N (fun p q => mh_df (V p) (V q)) t).2.2 < (mh_pm N (fun p q => mh_df (V p) (V q)) t).2.1 x
        · rw [if_pos ((nI_ltI (by omega) (by omega)).mpr hq), Nat.max_eq_right (by omega)]
        · rw [if_neg (fun q => hq ((nI_ltI (by omega) (by omega)).mp q)), Nat.max_eq_left (by omega)]
      have frl : mh_fr [nv, lv] h (mh_up h2 lv (.inl (2, 200, .inl (upd fl x 1)))) := q6.trans (mh_fr.up (by simp))
      -- the inner loop
      have inn := mh_wh (fun n' (q : Nat × (Nat → Int32)) => f_X6_widestStep_b81 (f_X6_widestStep_b47 n) n' o (nI (mh_pm N (fun p q => mh_df (V p) (V q)) (t + 1)).2.2) (nI (t + 1)) (nI x) (nI q.1) (mh_up (mh_up h2 lv (.inl (2, 200, .inl (upd fl x 1)))) nv (.inl (0, 200, .inl q.2))))
        (fun (f : Nat → Int32) => f_X6_widestStep_b120 (f_X6_widestStep_b47 n) o (nI (mh_pm N (fun p q => mh_df (V p) (V q)) (t + 1)).2.2) (nI (t + 1)) (mh_up (mh_up h2 lv (.inl (2, 200, .inl (upd fl x 1)))) nv (.inl (0, 200, .inl f))))
        (fun q => q.1 ≤ N ∧ (∀ p, p < q.1 → q.2 p = nI ((mh_pm N (fun p q => mh_df (V p) (V q)) (t + 1)).2.1 p)) ∧ ∀ p, q.1 ≤ p → p < N → q.2 p = nI ((mh_pm N (fun p q => mh_df (V p) (V q)) t).2.1 p)) (fun q => N - q.1)
        (fun f => ∀ p, p < N → f p = nI ((mh_pm N (fun p q => mh_df (V p) (V q)) (t + 1)).2.1 p))
        (fun n' q hq => by
          obtain ⟨i, f⟩ := q
          obtain ⟨p1, p2, p3⟩ := hq
          have p1 : i ≤ N := p1
          have p2 : ∀ p, p < i → f p = nI ((mh_pm N (fun p q => mh_df (V p) (V q)) (t + 1)).2.1 p) := p2
          have p3 : ∀ p, i ≤ p → p < N → f p = nI ((mh_pm N (fun p q => mh_df (V p) (V q)) t).2.1 p) := p3
          show (∃ s', _ ∧ _ ∧ f_X6_widestStep_b81 (f_X6_widestStep_b47 n) (n' + 1) o (nI (mh_pm N (fun p q => mh_df (V p) (V q)) (t + 1)).2.2) (nI (t + 1)) (nI x) (nI i) (mh_up (mh_up h2 lv (.inl (2, 200, .inl (upd fl x 1)))) nv (.inl (0, 200, .inl f))) = _) ∨ ∃ r, _ ∧ f_X6_widestStep_b81 (f_X6_widestStep_b47 n) (n' + 1) o (nI (mh_pm N (fun p q => mh_df (V p) (V q)) (t + 1)).2.2) (nI (t + 1)) (nI x) (nI i) (mh_up (mh_up h2 lv (.inl (2, 200, .inl (upd fl x 1)))) nv (.inl (0, 200, .inl f))) = _
          have frn : mh_fr [nv, lv] h (mh_up (mh_up h2 lv (.inl (2, 200, .inl (upd fl x 1)))) nv (.inl (0, 200, .inl f))) := frl.trans (mh_fr.up (by simp))
          have wo2 := ko _ frn
          by_cases hi : i < N
          · left
            have c2 : ¬ nI N ≤ nI i := fun q => absurd ((nI_leI (by omega) (by omega)).mp q) (by omega)
            have bi := bb.1 i hi
            have bd := dB x i x2 hi
            have ev : (if nI (mh_df (V x) (V i)) < nI ((mh_pm N (fun p q => mh_df (V p) (V q)) t).2.1 i) then nI (mh_df (V x) (V i)) else nI ((mh_pm N (fun p q => mh_df (V p) (V q)) t).2.1 i)) = nI ((mh_pm N (fun p q => mh_df (V p) (V q)) (t + 1)).2.1 i) := by
              rw [mh_pm, x1]
              show _ = nI (min ((mh_pm N (fun p q => mh_df (V p) (V q)) t).2.1 i) (mh_df (V x) (V i)))
              by_cases hq : mh_df (V x) (V i) < (mh_pm N (fun p q => mh_df (V p) (V q)) t).2.1 i
              · rw [if_pos ((nI_ltI (by omega) (by omega)).mpr hq), Nat.min_eq_right (by omega)]
              · rw [if_neg (fun q => hq ((nI_ltI (by omega) (by omega)).mp q)), Nat.min_eq_left (by omega)]
            refine ⟨(i + 1, upd f i (nI ((mh_pm N (fun p q => mh_df (V p) (V q)) (t + 1)).2.1 i))), ⟨hi, fun p hp => ?_, fun p hp1 hp2 => ?_⟩, by show N - (i + 1) < N - i; omega, ?_⟩
            · have hp : p < i + 1 := hp
              show upd f i (nI ((mh_pm N (fun p q => mh_df (V p) (V q)) (t + 1)).2.1 i)) p = _
              by_cases hpi : p = i
              · rw [hpi, pk_us]
              · rw [pk_un hpi]; exact p2 p (by omega)
            · have hp1 : i + 1 ≤ p := hp1
              show upd f i (nI ((mh_pm N (fun p q => mh_df (V p) (V q)) (t + 1)).2.1 i)) p = _
              rw [pk_un (by omega)]; exact p3 p (by omega) hp2
            · rw [f_X6_widestStep_b81, mh_gI_eq (k := 4) wo2 rfl, Option.bind_some, if_neg c2, mh_gR_eq (k := 1) wo2 rfl, Option.bind_some, Option.bind_some, mh_aI_eq (mh_up_eq _ _ _) (show i < 200 by omega) (by omega), Option.bind_some, mh_cal_eq wo2, mh_b2_eq (kd _ frn x i x2 hi), p3 i (Nat.le_refl _) hi, ev, mh_sI_eq (mh_up_eq _ _ _) (show i < 200 by omega) (by omega), Option.bind_some, mh_nm_eq, mh_inc, mh_up_up]
          · right
            refine ⟨f, fun p hp => p2 p (by omega), ?_⟩
            rw [f_X6_widestStep_b81, mh_gI_eq (k := 4) wo2 rfl, Option.bind_some, if_pos ((nI_leI (by omega) (by omega)).mpr (by omega))])
        200 mh_fu (0, fn) (by show N - 0 ≤ 200; omega) ⟨Nat.zero_le _, fun p hp => absurd hp (Nat.not_lt_zero p), fun p _ hp => q4 p hp⟩ (mh_fuel _ (by omega))
      obtain ⟨f', z1, z2⟩ := inn
      have z2 : f_X6_widestStep_b81 (f_X6_widestStep_b47 n) mh_fu o (nI (mh_pm N (fun p q => mh_df (V p) (V q)) (t + 1)).2.2) (nI (t + 1)) (nI x) (nI 0) (mh_up (mh_up h2 lv (.inl (2, 200, .inl (upd fl x 1)))) nv (.inl (0, 200, .inl fn))) = _ := z2
      rw [mh_up_id (show (mh_up h2 lv (.inl (2, 200, .inl (upd fl x 1)))) nv = some (.inl (0, 200, .inl fn)) by rw [mh_up_ne n7]; exact q2), nI_0] at z2
      refine ⟨(t + 1, mh_up (mh_up h2 lv (.inl (2, 200, .inl (upd fl x 1)))) nv (.inl (0, 200, .inl f'))), ⟨by show t + 1 ≤ N - 1; omega, ⟨f', upd fl x 1, mh_up_eq _ _ _, by show (mh_up (mh_up h2 lv (.inl (2, 200, .inl (upd fl x 1)))) nv (.inl (0, 200, .inl f'))) lv = _; rw [mh_up_ne n7.symm]; exact mh_up_eq _ _ _, z1, fun p hp => ?_⟩, frl.trans (mh_fr.up (by simp))⟩, by show N - 1 - (t + 1) < N - 1 - t; omega, ?_⟩
      · show upd fl x 1 p = mh_bz ((mh_pm N (fun p q => mh_df (V p) (V q)) (t + 1)).1 p)
        rw [mh_pm, x1]
        show upd fl x 1 p = mh_bz ((mh_pm N (fun p q => mh_df (V p) (V q)) t).1 p || p == x)
        by_cases hpx : p = x
        · rw [hpx, pk_us]
          simp [mh_bz]
        · rw [pk_un hpx, q5 p hp, show (p == x) = false by simpa using hpx, Bool.or_false]
      · rw [f_X6_widestStep_b47, mh_gI_eq (k := 4) wo rfl, Option.bind_some, if_neg c1, mh_cal_eq wo, mh_b2_eq enl, mh_gR_eq (k := 1) wo rfl, Option.bind_some, mh_aI_eq q2 (show x < 200 by omega) (by omega), Option.bind_some, q4 x x2, mh_nm_eq, ew, mh_gR_eq (k := 2) wo rfl, Option.bind_some, mh_sZ_eq q3 (show x < 200 by omega) (by omega) (Or.inr rfl), Option.bind_some, mh_nm_eq, z2]
        unfold f_X6_widestStep_b120
        rw [mh_nm_eq, mh_inc]
    · right
      have e : t = N - 1 := by omega
      refine ⟨(h2, fn, fl), ⟨q2, q3, q6⟩, ?_⟩
      rw [f_X6_widestStep_b47, mh_gI_eq (k := 4) wo rfl, Option.bind_some, if_pos ((nI_leI (by omega) (by omega)).mpr (by omega)), e]
      rfl
  -- the first loop
  have L1 := mh_wh (fun n (q : Nat × mh_H) => f_X6_widestStep_b2 n o (nI q.1) q.2) (fun (q : mh_H) => f_X6_widestStep_b43 o q)
    (fun q => q.1 ≤ N ∧ (∃ fn fl, q.2 nv = some (.inl (0, 200, .inl fn)) ∧ q.2 lv = some (.inl (2, 200, .inl fl)) ∧ (∀ p, p < q.1 → fn p = nI (mh_df (V 0) (V p)) ∧ fl p = mh_bz (p == 0))) ∧ mh_fr [nv, lv] h q.2) (fun q => N - q.1)
    (fun q => (∃ fn fl, q nv = some (.inl (0, 200, .inl fn)) ∧ q lv = some (.inl (2, 200, .inl fl)) ∧ (∀ p, p < N → fn p = nI (mh_df (V 0) (V p)) ∧ fl p = mh_bz (p == 0))) ∧ mh_fr [nv, lv] h q)
    (fun n q hq => by
      obtain ⟨i, h2⟩ := q
      obtain ⟨q1, ⟨fn, fl, q2, q3, q4⟩, q6⟩ := hq
      have q1 : i ≤ N := q1
      have q2 : h2 nv = some (.inl (0, 200, .inl fn)) := q2
      have q3 : h2 lv = some (.inl (2, 200, .inl fl)) := q3
      have q4 : ∀ p, p < i → fn p = nI (mh_df (V 0) (V p)) ∧ fl p = mh_bz (p == 0) := q4
      have q6 : mh_fr [nv, lv] h h2 := q6
      show (∃ s', _ ∧ _ ∧ f_X6_widestStep_b2 (n + 1) o (nI i) h2 = _) ∨ ∃ r, _ ∧ f_X6_widestStep_b2 (n + 1) o (nI i) h2 = _
      have wo := ko h2 q6
      by_cases hi : i < N
      · left
        have c1 : ¬ nI N ≤ nI i := fun q => absurd ((nI_leI (by omega) (by omega)).mp q) (by omega)
        have frl : ∀ y, mh_fr [nv, lv] h (mh_up h2 lv (.inl (2, 200, .inl (upd fl i y)))) := fun y => q6.trans (mh_fr.up (by simp))
        have go : ∀ y : Int32, (y = 0 ∨ y = 1) → y = mh_bz (i == 0) → f_X6_widestStep_b24 (f_X6_widestStep_b2 n) o (nI i) lv (nI i) y h2 = f_X6_widestStep_b2 n o (nI (i + 1)) (mh_up (mh_up h2 lv (.inl (2, 200, .inl (upd fl i y)))) nv (.inl (0, 200, .inl (upd fn i (nI (mh_df (V 0) (V i))))))) := fun y hy _ => by
          unfold f_X6_widestStep_b24
          have ed := kd _ (frl y) 0 i (by omega) hi
          rw [nI_0] at ed
          rw [mh_sZ_eq q3 (by omega) (by omega) hy, Option.bind_some, mh_gR_eq (k := 1) (ko _ (frl y)) rfl, Option.bind_some, mh_cal_eq (ko _ (frl y)), mh_b2_eq ed, mh_sI_eq (show (mh_up h2 lv (.inl (2, 200, .inl (upd fl i y)))) nv = some (.inl (0, 200, .inl fn)) by rw [mh_up_ne n7]; exact q2) (by omega) (by omega), Option.bind_some, mh_nm_eq, mh_inc]
        refine ⟨(i + 1, mh_up (mh_up h2 lv (.inl (2, 200, .inl (upd fl i (mh_bz (i == 0)))))) nv (.inl (0, 200, .inl (upd fn i (nI (mh_df (V 0) (V i))))))), ⟨hi, ⟨upd fn i (nI (mh_df (V 0) (V i))), upd fl i (mh_bz (i == 0)), mh_up_eq _ _ _, by show (mh_up (mh_up h2 lv _) nv _) lv = _; rw [mh_up_ne n7.symm]; exact mh_up_eq _ _ _, fun p hp => ?_⟩, (frl _).trans (mh_fr.up (by simp))⟩, by show N - (i + 1) < N - i; omega, ?_⟩
        · have hp : p < i + 1 := hp
          by_cases hpi : p = i
          · rw [hpi, pk_us, pk_us]; exact ⟨rfl, rfl⟩
          · rw [pk_un hpi, pk_un hpi]; exact q4 p (by omega)
        · rw [f_X6_widestStep_b2, mh_gI_eq (k := 4) wo rfl, Option.bind_some, if_neg c1, mh_gR_eq (k := 2) wo rfl, Option.bind_some]
          by_cases hz : i = 0
          · rw [if_pos (by rw [hz]; rfl), go 1 (Or.inr rfl) (by rw [hz]; rfl), show mh_bz (i == 0) = 1 by rw [hz]; rfl]
          · rw [if_neg (nI_ne0 (by omega) (by omega)), go 0 (Or.inl rfl) (by rw [show (i == 0) = false by simpa using hz]; rfl), show mh_bz (i == 0) = 0 by rw [show (i == 0) = false by simpa using hz]; rfl]
      · right
        refine ⟨h2, ⟨⟨fn, fl, q2, q3, fun p hp => q4 p (by omega)⟩, q6⟩, ?_⟩
        rw [f_X6_widestStep_b2, mh_gI_eq (k := 4) wo rfl, Option.bind_some, if_pos ((nI_leI (by omega) (by omega)).mpr (by omega))])
    200 mh_fu (0, h) (by show N - 0 ≤ 200; omega) ⟨Nat.zero_le _, ⟨fn0, fl0, hn, hl, fun p hp => absurd hp (Nat.not_lt_zero p)⟩, mh_fr.rfl⟩ (mh_fuel _ (by omega))
  obtain ⟨h2, ⟨⟨fn, fl, z1, z2, z3⟩, z4⟩, z5⟩ := L1
  have z5 : f_X6_widestStep_b2 mh_fu o (nI 0) h = f_X6_widestStep_b43 o h2 := z5
  obtain ⟨⟨h3, fn3, fl3⟩, ⟨y1, y2, y3⟩, y4⟩ := L2 h2 fn fl z4 z1 z2 (fun p hp => (z3 p hp).1) (fun p hp => (z3 p hp).2)
  refine ⟨h3, fn3, fl3, ?_, y1, y2, y3⟩
  unfold f_X6_widestStep_e
  rw [nI_0] at z5
  rw [mh_nm_eq, z5]
  exact y4
end MhWide
