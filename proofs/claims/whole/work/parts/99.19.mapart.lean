section MhModelAp
variable {h : mh_H} {bd : Nat → Nat} {σ : mh_Sg} {F : Nat → Int32}
theorem mh_r_differ {fl : Nat → Int32} {N : Nat} {V : Nat → List Nat} (ho : h (bd 0) = some (.inr (12, mh_rf bd F))) (hf : h (bd 59) = some (.inl (0, 2400, .inl fl))) (hN : N ≤ 200) (hV : ∀ r i, r < N → i < 12 → fl (12 * r + i) = nI ((V r).getD i 0)) (hb : ∀ r i, r < N → (V r).getD i 0 ≤ 3000) {a b : Nat} (ha : a < N) (hbN : b < N) : f_X12_differ_e (bd 0) (nI a) (nI b) h = some (nI (mh_df (V a) (V b)), h) := by
  have key := mh_wh (fun n (i : Nat) => f_X12_differ_b8 n (bd 0) (nI a) (nI b) (nI (mh_sumr (mh_sub1 (V a) (V b)) i)) (nI (mh_sumr (mh_sub1 (V b) (V a)) i)) (nI i) h) (fun (r : Int32) => some (r, h)) (fun i => i ≤ 12) (fun i => 12 - i) (fun r => r = nI (mh_df (V a) (V b)))
    (fun n i hi => by
      show (∃ s', _ ∧ _ ∧ f_X12_differ_b8 (n + 1) (bd 0) (nI a) (nI b) (nI (mh_sumr (mh_sub1 (V a) (V b)) i)) (nI (mh_sumr (mh_sub1 (V b) (V a)) i)) (nI i) h = _) ∨ ∃ r, _ ∧ f_X12_differ_b8 (n + 1) (bd 0) (nI a) (nI b) (nI (mh_sumr (mh_sub1 (V a) (V b)) i)) (nI (mh_sumr (mh_sub1 (V b) (V a)) i)) (nI i) h = _
      rw [f_X12_differ_b8]
      by_cases hc : i < 12
      · left
        refine ⟨i + 1, hc, by omega, ?_⟩
        have ba := hb a i ha
        have bb := hb b i hbN
        have e1 : ∀ r, (12 : Int32) * nI r + nI i = nI (12 * r + i) := fun r => by rw [show (12 : Int32) = nI 12 from rfl, mh_nI_mul, nI_add]
        have s1 : mh_sumr (mh_sub1 (V a) (V b)) (i + 1) = mh_sumr (mh_sub1 (V a) (V b)) i + ((V a).getD i 0 - (V b).getD i 0) := rfl
        have s2 : mh_sumr (mh_sub1 (V b) (V a)) (i + 1) = mh_sumr (mh_sub1 (V b) (V a)) i + ((V b).getD i 0 - (V a).getD i 0) := rfl
        rw [if_neg (fun q => absurd ((mh_lel (a := 12) 12 rfl (by omega) (by omega)).mp q) (by omega)), mh_gR_eq (k := 19) ho rfl, Option.bind_some, e1, mh_aI_eq hf (show 12 * a + i < 2400 by omega) (by omega), Option.bind_some, Option.bind_some, e1, mh_aI_eq hf (show 12 * b + i < 2400 by omega) (by omega), Option.bind_some, hV a i ha hc, hV b i hbN hc, mh_nm_eq, s1, s2]
        by_cases c : (V a).getD i 0 ≤ (V b).getD i 0
        · have le : nI ((V a).getD i 0) - nI ((V b).getD i 0) ≤ 0 := by
            by_cases e : (V a).getD i 0 = (V b).getD i 0
            · rw [e, pk_sub (Nat.le_refl _), Nat.sub_self]; decide
            · exact Int32.le_of_lt (mh_subneg (by omega) (by omega))
          have ey : nI (mh_sumr (mh_sub1 (V b) (V a)) i) - (nI ((V a).getD i 0) - nI ((V b).getD i 0)) = nI (mh_sumr (mh_sub1 (V b) (V a)) i + ((V b).getD i 0 - (V a).getD i 0)) := by
            rw [Int32.sub_eq_add_neg, Int32.neg_sub, pk_sub c, nI_add]
          rw [if_pos le, mh_nm_eq, ey, show (V a).getD i 0 - (V b).getD i 0 = 0 by omega, Nat.add_zero]
          unfold f_X12_differ_b62
          rw [mh_nm_eq, mh_inc]
        · rw [pk_sub (by omega), if_neg (nI_nle (by omega) (by omega)), mh_nm_eq, nI_add, show (V b).getD i 0 - (V a).getD i 0 = 0 by omega, Nat.add_zero]
          unfold f_X12_differ_b62
          rw [mh_nm_eq, mh_inc]
      · right
        have e : i = 12 := by omega
        subst e
        refine ⟨_, rfl, ?_⟩
        have b1 := mh_sumr_leb (g := mh_sub1 (V a) (V b)) (B := 3000) 12 (fun r hr => by have := hb a r ha; unfold mh_sub1; omega)
        have b2 := mh_sumr_leb (g := mh_sub1 (V b) (V a)) (B := 3000) 12 (fun r hr => by have := hb b r hbN; unfold mh_sub1; omega)
        rw [if_pos ((mh_lel (a := 12) 12 rfl (by omega) (by omega)).mpr (by omega))]
        unfold f_X12_differ_b68 mh_df
        by_cases hq : mh_sumr (mh_sub1 (V a) (V b)) 12 < mh_sumr (mh_sub1 (V b) (V a)) 12
        · rw [if_pos ((nI_ltI (by omega) (by omega)).mpr hq), Nat.max_eq_right (by omega)]
        · rw [if_neg (fun q => hq ((nI_ltI (by omega) (by omega)).mp q)), Nat.max_eq_left (by omega)])
    12 mh_fu 0 (by omega) (Nat.zero_le _) (mh_fuel _ (by omega))
  obtain ⟨r, r1, r2⟩ := key
  rw [r1] at r2
  unfold f_X12_differ_e
  rw [mh_nm_eq, mh_nm_eq, mh_nm_eq]
  exact r2
/-- how far each is from those that are led to -/
def mh_fa (led : Nat → Bool) (near : Nat → Nat) (i : Nat) : Int32 := if led i then -1 else nI (near i)
def mh_no (o : Option Nat) : Int32 := match o with
  | none => -1
  | some f => nI f
/-- the nearest that isn't led to -/
theorem mh_r_near (k176 : Nat → Int32 → Int32 → mh_H → Option (Int32 × mh_H)) {x4 x5 : Int32} {fa : Nat → Int32} {led : Nat → Bool} {near : Nat → Nat} {N : Nat} (ho : h (bd 0) = some (.inr (12, mh_rf bd F))) (h22 : F 22 = nI N) (hN : N ≤ 200) (hf : h (bd 61) = some (.inl (0, 200, .inl fa))) (hfa : ∀ i, i < N → fa i = mh_fa led near i) (hb : ∀ i, i < N → near i < 2 ^ 31) : f_X12_apart_b191 k176 mh_fu (bd 0) x4 x5 (-1 : Int32) 0 h = f_X12_apart_b244 k176 (bd 0) x4 x5 (mh_no (mh_nl led near N)) h := by
  have key := mh_wh (fun m (p : Nat) => f_X12_apart_b191 k176 m (bd 0) x4 x5 (mh_no (mh_nl led near p)) (nI p) h) (fun (_ : Unit) => f_X12_apart_b244 k176 (bd 0) x4 x5 (mh_no (mh_nl led near N)) h) (fun p => p ≤ N) (fun p => N - p) (fun _ => True)
    (fun m p hp => by
      show (∃ s', _ ∧ _ ∧ f_X12_apart_b191 k176 (m + 1) (bd 0) x4 x5 (mh_no (mh_nl led near p)) (nI p) h = _) ∨ ∃ r, _ ∧ f_X12_apart_b191 k176 (m + 1) (bd 0) x4 x5 (mh_no (mh_nl led near p)) (nI p) h = _
      rw [f_X12_apart_b191, mh_gI_eq (k := 22) ho rfl, Option.bind_some, h22]
      by_cases c : p < N
      · left
        refine ⟨p + 1, c, by omega, ?_⟩
        have nb := hb p c
        have fp := hfa p c
        unfold mh_fa at fp
        rw [if_neg (fun q => absurd ((nI_leI (by omega) (by omega)).mp q) (by omega)), mh_gR_eq (k := 21) ho rfl, Option.bind_some, mh_aI_eq hf (show p < 200 by omega) (by omega), Option.bind_some, mh_nl]
        have nok := mh_nl_ok (led := led) (near := near) p
        by_cases cl : led p = true
        · rw [if_pos cl] at fp
          rw [fp, if_pos rfl]
          unfold f_X12_apart_b238
          rw [mh_nm_eq, mh_inc]
          cases hnl : mh_nl led near p with
          | none =>
            show _ = f_X12_apart_b191 k176 m (bd 0) x4 x5 (mh_no (if led p = true then none else some p)) (nI (p + 1)) h
            rw [if_pos cl]
          | some f =>
            show _ = f_X12_apart_b191 k176 m (bd 0) x4 x5 (mh_no (if led p = false ∧ near p < near f then some p else some f)) (nI (p + 1)) h
            rw [if_neg (fun q => by rw [cl] at q; cases q.1)]
        · have cl' : led p = false := by simpa using cl
          rw [if_neg cl] at fp
          rw [fp, if_neg (mh_nI_m1 nb)]
          cases hnl : mh_nl led near p with
          | none =>
            rw [if_pos (show mh_no none = (-1 : Int32) from rfl)]
            unfold f_X12_apart_b234 f_X12_apart_b238
            rw [mh_nm_eq, mh_inc]
            show _ = f_X12_apart_b191 k176 m (bd 0) x4 x5 (mh_no (if led p = true then none else some p)) (nI (p + 1)) h
            rw [if_neg cl]
            rfl
          | some f =>
            obtain ⟨f1, f2⟩ := nok.1 f hnl
            have nbf := hb f (by omega)
            have ff := hfa f (by omega)
            unfold mh_fa at ff
            rw [if_neg (by rw [f2]; decide)] at ff
            have ef : mh_no (some f) = nI f := rfl
            rw [ef, if_neg (mh_nI_m1 (by omega)), Option.bind_some, mh_aI_eq hf (show p < 200 by omega) (by omega), Option.bind_some, Option.bind_some, mh_aI_eq hf (show f < 200 by omega) (by omega), Option.bind_some, fp, ff]
            by_cases cn : near p < near f
            · rw [if_neg (fun q => absurd ((nI_leI nbf nb).mp q) (by omega))]
              unfold f_X12_apart_b234 f_X12_apart_b238
              rw [mh_nm_eq, mh_inc]
              show _ = f_X12_apart_b191 k176 m (bd 0) x4 x5 (mh_no (if led p = false ∧ near p < near f then some p else some f)) (nI (p + 1)) h
              rw [if_pos ⟨cl', cn⟩]
              rfl
            · rw [if_pos ((nI_leI nbf nb).mpr (by omega))]
              unfold f_X12_apart_b238
              rw [mh_nm_eq, mh_inc]
              show _ = f_X12_apart_b191 k176 m (bd 0) x4 x5 (mh_no (if led p = false ∧ near p < near f then some p else some f)) (nI (p + 1)) h
              rw [if_neg (fun q => cn q.2)]
              rfl
      · right
        have e : p = N := by omega
        subst e
        exact ⟨(), trivial, by rw [if_pos ((nI_leI (by omega) (by omega)).mpr (by omega))]⟩)
    200 mh_fu 0 (by omega) (Nat.zero_le _) (mh_fuel _ (by omega))
  obtain ⟨_, _, z⟩ := key
  exact z
/-- all come nearer -/
theorem mh_r_nearer (k176 : Nat → Int32 → Int32 → mh_H → Option (Int32 × mh_H)) {x4 x5 : Int32} {fa fl : Nat → Int32} {led : Nat → Bool} {near : Nat → Nat} {N x : Nat} {V : Nat → List Nat} (hI : mh_Inj bd 99) (ho : h (bd 0) = some (.inr (12, mh_rf bd F))) (h22 : F 22 = nI N) (hN : N ≤ 200) (hl : h (bd 59) = some (.inl (0, 2400, .inl fl))) (hV : ∀ r i, r < N → i < 12 → fl (12 * r + i) = nI ((V r).getD i 0)) (hVb : ∀ r i, r < N → (V r).getD i 0 ≤ 3000) (hf : h (bd 61) = some (.inl (0, 200, .inl fa))) (hfa : ∀ i, i < N → fa i = mh_fa led near i) (hb : ∀ i, i < N → near i < 2 ^ 30) (hx : x < N) : ∃ h' fa', f_X12_apart_b269 k176 mh_fu (bd 0) x4 x5 (nI x) 0 h = f_X12_apart_b320 k176 (bd 0) x4 x5 h' ∧ h' (bd 61) = some (.inl (0, 200, .inl fa')) ∧ mh_fr [bd 61] h h' ∧ ∀ i, i < N → fa' i = mh_fa led (fun p => min (near p) (mh_df (V x) (V p))) i := by
  have key := mh_wh (fun m (q : Nat × mh_H) => f_X12_apart_b269 k176 m (bd 0) x4 x5 (nI x) (nI q.1) q.2) (fun (r : mh_H) => f_X12_apart_b320 k176 (bd 0) x4 x5 r) (fun q => q.1 ≤ N ∧ mh_fr [bd 61] h q.2 ∧ ∃ fa', q.2 (bd 61) = some (.inl (0, 200, .inl fa')) ∧ (∀ i, i < q.1 → fa' i = mh_fa led (fun p => min (near p) (mh_df (V x) (V p))) i) ∧ ∀ i, q.1 ≤ i → i < N → fa' i = mh_fa led near i) (fun q => N - q.1) (fun r => mh_fr [bd 61] h r ∧ ∃ fa', r (bd 61) = some (.inl (0, 200, .inl fa')) ∧ ∀ i, i < N → fa' i = mh_fa led (fun p => min (near p) (mh_df (V x) (V p))) i)
    (fun m q hq => by
      obtain ⟨p, hh⟩ := q
      obtain ⟨q1, q2, fa', q3, q4, q5⟩ := hq
      have q1 : p ≤ N := q1
      have q2 : mh_fr [bd 61] h hh := q2
      have q3 : hh (bd 61) = some (.inl (0, 200, .inl fa')) := q3
      have q4 : ∀ i, i < p → fa' i = mh_fa led (fun p => min (near p) (mh_df (V x) (V p))) i := q4
      have q5 : ∀ i, p ≤ i → i < N → fa' i = mh_fa led near i := q5
      show (∃ s', _ ∧ _ ∧ f_X12_apart_b269 k176 (m + 1) (bd 0) x4 x5 (nI x) (nI p) hh = _) ∨ ∃ r, _ ∧ f_X12_apart_b269 k176 (m + 1) (bd 0) x4 x5 (nI x) (nI p) hh = _
      have ho' := (q2 (bd 0) (by simp [hI.ne (show 0 < 99 by omega) (show 61 < 99 by omega) (by omega)])).trans ho
      have hl' := (q2 (bd 59) (by simp [hI.ne (show 59 < 99 by omega) (show 61 < 99 by omega) (by omega)])).trans hl
      rw [f_X12_apart_b269, mh_gI_eq (k := 22) ho' rfl, Option.bind_some, h22]
      by_cases c : p < N
      · left
        have nb := hb p c
        have fp := q5 p (Nat.le_refl _) c
        unfold mh_fa at fp
        rw [if_neg (fun q => absurd ((nI_leI (by omega) (by omega)).mp q) (by omega)), mh_gR_eq (k := 21) ho' rfl, Option.bind_some, mh_aI_eq q3 (show p < 200 by omega) (by omega), Option.bind_some]
        by_cases cl : led p = true
        · rw [if_pos cl] at fp
          refine ⟨(p + 1, hh), ⟨c, q2, fa', q3, fun i hi => ?_, fun i h1 h2 => q5 i (by have h1 : p + 1 ≤ i := h1; omega) h2⟩, by show N - (p + 1) < N - p; omega, ?_⟩
          · have hi : i < p + 1 := hi
            by_cases e : i = p
            · rw [e, fp]; unfold mh_fa; rw [if_pos cl]
            · exact q4 i (by omega)
          · rw [fp, if_pos rfl]
            unfold f_X12_apart_b314
            rw [mh_nm_eq, mh_inc]
        · rw [if_neg cl] at fp
          have dd := mh_r_differ (h := hh) (F := F) ho' hl' hN hV hVb hx c
          have db := mh_df_le (x := V x) (y := V p) (fun i _ => hVb x i hx) (fun i _ => hVb p i c)
          have emin : (if nI (mh_df (V x) (V p)) < nI (near p) then nI (mh_df (V x) (V p)) else nI (near p)) = nI (min (near p) (mh_df (V x) (V p))) := by
            by_cases cm : mh_df (V x) (V p) < near p
            · rw [if_pos ((nI_ltI (by omega) (by omega)).mpr cm), Nat.min_eq_right (by omega)]
            · rw [if_neg (fun q => cm ((nI_ltI (by omega) (by omega)).mp q)), Nat.min_eq_left (by omega)]
          refine ⟨(p + 1, mh_up hh (bd 61) (.inl (0, 200, .inl (upd fa' p (nI (min (near p) (mh_df (V x) (V p)))))))), ⟨c, q2.trans (mh_fr.up List.mem_cons_self), _, mh_up_eq _ _ _, fun i hi => ?_, fun i h1 h2 => ?_⟩, by show N - (p + 1) < N - p; omega, ?_⟩
          · have hi : i < p + 1 := hi
            by_cases e : i = p
            · rw [e, pk_us]; unfold mh_fa; rw [if_neg cl]
            · rw [pk_un e]; exact q4 i (by omega)
          · have h1 : p + 1 ≤ i := h1
            rw [pk_un (by omega)]; exact q5 i (by omega) h2
          · rw [fp, if_neg (mh_nI_m1 (by omega)), Option.bind_some, Option.bind_some, mh_aI_eq q3 (show p < 200 by omega) (by omega), Option.bind_some, fp, mh_cal_eq ho', mh_b2_eq dd, emin, mh_sI_eq q3 (by omega) (by omega), Option.bind_some]
            unfold f_X12_apart_b314
            rw [mh_nm_eq, mh_inc]
      · right
        have e : p = N := by omega
        subst e
        exact ⟨hh, ⟨q2, fa', q3, q4⟩, by rw [if_pos ((nI_leI (by omega) (by omega)).mpr (by omega))]⟩)
    200 mh_fu (0, h) (by show N - 0 ≤ 200; omega) ⟨Nat.zero_le _, mh_fr.rfl, fa, hf, fun i hi => absurd hi (Nat.not_lt_zero i), fun i _ hi => hfa i hi⟩ (mh_fuel _ (by omega))
  obtain ⟨h', ⟨z1, fa', z2, z3⟩, z4⟩ := key
  exact ⟨h', fa', z4, z2, z1, z3⟩
/-- the widest step of the tree -/
theorem mh_r_tree {fa0 fl : Nat → Int32} {N : Nat} {V : Nat → List Nat} (hI : mh_Inj bd 99) (ho : h (bd 0) = some (.inr (12, mh_rf bd F))) (h22 : F 22 = nI N) (h0 : 0 < N) (hN : N ≤ 200) (hl : h (bd 59) = some (.inl (0, 2400, .inl fl))) (hV : ∀ r i, r < N → i < 12 → fl (12 * r + i) = nI ((V r).getD i 0)) (hVb : ∀ r i, r < N → (V r).getD i 0 ≤ 3000) (hf : h (bd 61) = some (.inl (0, 200, .inl fa0))) : ∃ h' fa', f_X12_apart_b135 mh_fu (bd 0) 0 0 h = some (nI (mh_pm N (fun p q => mh_df (V p) (V q)) (N - 1)).2.2, h') ∧ h' (bd 61) = some (.inl (0, 200, .inl fa')) ∧ mh_fr [bd 61] h h' := by
  have dle : ∀ p q, p < N → q < N → mh_df (V p) (V q) ≤ 36000 := fun p q hp hq => mh_df_le (fun i _ => hVb p i hp) (fun i _ => hVb q i hq)
  have pmb := mh_pm_b (N := N) (d := fun p q => mh_df (V p) (V q)) (B := 36000) dle h0
  -- the first row
  have k1 := mh_wh (fun m (q : Nat × mh_H) => f_X12_apart_b135 m (bd 0) 0 (nI q.1) q.2) (fun (r : mh_H) => f_X12_apart_b173 (bd 0) 0 r) (fun q => q.1 ≤ N ∧ mh_fr [bd 61] h q.2 ∧ ∃ fa', q.2 (bd 61) = some (.inl (0, 200, .inl fa')) ∧ ∀ i, i < q.1 → fa' i = mh_fa (fun p => p == 0) (fun p => mh_df (V 0) (V p)) i) (fun q => N - q.1) (fun r => mh_fr [bd 61] h r ∧ ∃ fa', r (bd 61) = some (.inl (0, 200, .inl fa')) ∧ ∀ i, i < N → fa' i = mh_fa (fun p => p == 0) (fun p => mh_df (V 0) (V p)) i)
    (fun m q hq => by
      obtain ⟨p, hh⟩ := q
      obtain ⟨q1, q2, fa', q3, q4⟩ := hq
      have q1 : p ≤ N := q1
      have q2 : mh_fr [bd 61] h hh := q2
      have q3 : hh (bd 61) = some (.inl (0, 200, .inl fa')) := q3
      have q4 : ∀ i, i < p → fa' i = mh_fa (fun p => p == 0) (fun p => mh_df (V 0) (V p)) i := q4
      show (∃ s', _ ∧ _ ∧ f_X12_apart_b135 (m + 1) (bd 0) 0 (nI p) hh = _) ∨ ∃ r, _ ∧ f_X12_apart_b135 (m + 1) (bd 0) 0 (nI p) hh = _
      have ho' := (q2 (bd 0) (by simp [hI.ne (show 0 < 99 by omega) (show 61 < 99 by omega) (by omega)])).trans ho
      have hl' := (q2 (bd 59) (by simp [hI.ne (show 59 < 99 by omega) (show 61 < 99 by omega) (by omega)])).trans hl
      rw [f_X12_apart_b135, mh_gI_eq (k := 22) ho' rfl, Option.bind_some, h22]
      by_cases c : p < N
      · left
        have fin : ∀ v, v = mh_fa (fun p => p == 0) (fun p => mh_df (V 0) (V p)) p → ∃ s' : Nat × mh_H, (s'.1 ≤ N ∧ mh_fr [bd 61] h s'.2 ∧ ∃ fa', s'.2 (bd 61) = some (.inl (0, 200, .inl fa')) ∧ ∀ i, i < s'.1 → fa' i = mh_fa (fun p => p == 0) (fun p => mh_df (V 0) (V p)) i) ∧ N - s'.1 < N - p ∧ f_X12_apart_b166 (f_X12_apart_b135 m) (bd 0) 0 (nI p) (bd 61) (nI p) v hh = f_X12_apart_b135 m (bd 0) 0 (nI s'.1) s'.2 := fun v hv => by
          refine ⟨(p + 1, mh_up hh (bd 61) (.inl (0, 200, .inl (upd fa' p v)))), ⟨c, q2.trans (mh_fr.up List.mem_cons_self), _, mh_up_eq _ _ _, fun i hi => ?_⟩, by show N - (p + 1) < N - p; omega, ?_⟩
          · have hi : i < p + 1 := hi
            by_cases e : i = p
            · rw [e, pk_us]; exact hv
            · rw [pk_un e]; exact q4 i (by omega)
          · unfold f_X12_apart_b166
            rw [mh_sI_eq q3 (by omega) (by omega), Option.bind_some, mh_nm_eq, mh_inc]
        rw [if_neg (fun q => absurd ((nI_leI (by omega) (by omega)).mp q) (by omega)), mh_gR_eq (k := 21) ho' rfl, Option.bind_some]
        by_cases e : p = 0
        · rw [if_pos ((mh_eqr (b := 0) 0 rfl (by omega) (by omega)).mpr e)]
          exact fin _ (by unfold mh_fa; rw [e]; rfl)
        · have dd := mh_r_differ (h := hh) (F := F) ho' hl' hN hV hVb h0 c
          have dd : f_X12_differ_e (bd 0) (0 : Int32) (nI p) hh = _ := dd
          rw [if_neg (fun q => e ((mh_eqr (b := 0) 0 rfl (by omega) (by omega)).mp q)), mh_cal_eq ho', mh_b2_eq dd]
          exact fin _ (by unfold mh_fa; rw [if_neg (by simpa using e)])
      · right
        have e : p = N := by omega
        subst e
        exact ⟨hh, ⟨q2, fa', q3, q4⟩, by rw [if_pos ((nI_leI (by omega) (by omega)).mpr (by omega))]⟩)
    200 mh_fu (0, h) (by show N - 0 ≤ 200; omega) ⟨Nat.zero_le _, mh_fr.rfl, fa0, hf, fun i hi => absurd hi (Nat.not_lt_zero i)⟩ (mh_fuel _ (by omega))
  obtain ⟨h1, ⟨y1, fa1, y2, y3⟩, y4⟩ := k1
  have y4 : f_X12_apart_b135 mh_fu (bd 0) 0 0 h = f_X12_apart_b173 (bd 0) 0 h1 := y4
  -- the steps
  have k2 := mh_wh (fun m (q : Nat × mh_H) => f_X12_apart_b176 m (bd 0) (nI (mh_pm N (fun p q => mh_df (V p) (V q)) q.1).2.2) (nI (q.1 + 1)) q.2) (fun (r : mh_H) => some (nI (mh_pm N (fun p q => mh_df (V p) (V q)) (N - 1)).2.2, r)) (fun q => q.1 < N ∧ mh_fr [bd 61] h q.2 ∧ ∃ fa', q.2 (bd 61) = some (.inl (0, 200, .inl fa')) ∧ ∀ i, i < N → fa' i = mh_fa (mh_pm N (fun p q => mh_df (V p) (V q)) q.1).1 (mh_pm N (fun p q => mh_df (V p) (V q)) q.1).2.1 i) (fun q => N - q.1) (fun r => mh_fr [bd 61] h r ∧ ∃ fa', r (bd 61) = some (.inl (0, 200, .inl fa')))
    (fun m q hq => by
      obtain ⟨t, hh⟩ := q
      obtain ⟨q1, q2, fa', q3, q4⟩ := hq
      have q1 : t < N := q1
      have q2 : mh_fr [bd 61] h hh := q2
      have q3 : hh (bd 61) = some (.inl (0, 200, .inl fa')) := q3
      have q4 : ∀ i, i < N → fa' i = mh_fa (mh_pm N (fun p q => mh_df (V p) (V q)) t).1 (mh_pm N (fun p q => mh_df (V p) (V q)) t).2.1 i := q4
      show (∃ s', _ ∧ _ ∧ f_X12_apart_b176 (m + 1) (bd 0) (nI (mh_pm N (fun p q => mh_df (V p) (V q)) t).2.2) (nI (t + 1)) hh = _) ∨ ∃ r, _ ∧ f_X12_apart_b176 (m + 1) (bd 0) (nI (mh_pm N (fun p q => mh_df (V p) (V q)) t).2.2) (nI (t + 1)) hh = _
      have ho' := (q2 (bd 0) (by simp [hI.ne (show 0 < 99 by omega) (show 61 < 99 by omega) (by omega)])).trans ho
      have hl' := (q2 (bd 59) (by simp [hI.ne (show 59 < 99 by omega) (show 61 < 99 by omega) (by omega)])).trans hl
      rw [f_X12_apart_b176, mh_gI_eq (k := 22) ho' rfl, Option.bind_some, h22]
      by_cases c : t + 1 < N
      · left
        obtain ⟨x, x1, x2, x3⟩ := mh_pm_next (d := fun p q => mh_df (V p) (V q)) c
        obtain ⟨b1, b2⟩ := pmb t
        have epm : mh_pm N (fun p q => mh_df (V p) (V q)) (t + 1) = ((fun p => (mh_pm N (fun p q => mh_df (V p) (V q)) t).1 p || p == x), (fun p => min ((mh_pm N (fun p q => mh_df (V p) (V q)) t).2.1 p) (mh_df (V x) (V p))), max (mh_pm N (fun p q => mh_df (V p) (V q)) t).2.2 ((mh_pm N (fun p q => mh_df (V p) (V q)) t).2.1 x)) := by
          rw [mh_pm, x1]
          rfl
        obtain ⟨led, eled⟩ : ∃ led, led = (mh_pm N (fun p q => mh_df (V p) (V q)) t).1 := ⟨_, rfl⟩
        obtain ⟨near, enear⟩ : ∃ near, near = (mh_pm N (fun p q => mh_df (V p) (V q)) t).2.1 := ⟨_, rfl⟩
        obtain ⟨wd, ewd⟩ : ∃ wd, wd = (mh_pm N (fun p q => mh_df (V p) (V q)) t).2.2 := ⟨_, rfl⟩
        rw [← eled, ← enear, ← ewd] at epm
        rw [← eled, ← enear] at x1 q4
        rw [← eled] at x3
        rw [← enear] at b1
        rw [← ewd] at b2 ⊢
        have nn := mh_r_near (h := hh) (F := F) (f_X12_apart_b176 m) (x4 := nI wd) (x5 := nI (t + 1)) (led := led) (near := near) ho' h22 hN q3 q4 (fun i hi => by have := b1 i hi; omega)
        have fx := q4 x x2
        have fx' : fa' x = nI (near x) := by rw [fx]; unfold mh_fa; rw [if_neg (by rw [x3]; decide)]
        have bx := b1 x x2
        have emax : (if nI wd < nI (near x) then nI (near x) else nI wd) = nI (max wd (near x)) := by
          by_cases cm : wd < near x
          · rw [if_pos ((nI_ltI (by omega) (by omega)).mpr cm), Nat.max_eq_right (by omega)]
          · rw [if_neg (fun q => cm ((nI_ltI (by omega) (by omega)).mp q)), Nat.max_eq_left (by omega)]
        obtain ⟨H2, eH2⟩ : ∃ H2, H2 = mh_up hh (bd 61) (.inl (0, 200, .inl (upd fa' x (-1)))) := ⟨_, rfl⟩
        have s2 : mh_sI hh (bd 61) (nI x) (-1 : Int32) = some H2 := by rw [eH2]; exact mh_sI_eq q3 (by omega) (by omega)
        have n0 : H2 (bd 0) = some (.inr (12, mh_rf bd F)) := by rw [eH2, mh_up_ne (hI.ne (by omega) (by omega) (by omega))]; exact ho'
        have n59 : H2 (bd 59) = some (.inl (0, 2400, .inl fl)) := by rw [eH2, mh_up_ne (hI.ne (by omega) (by omega) (by omega))]; exact hl'
        obtain ⟨H3, fa3, u1, u2, u3, u4⟩ := mh_r_nearer (h := H2) (F := F) (f_X12_apart_b176 m) (x4 := nI (max wd (near x))) (x5 := nI (t + 1)) (led := fun p => led p || p == x) (near := near) hI n0 h22 hN n59 hV hVb (by rw [eH2]; exact mh_up_eq _ _ _) (fun i hi => by
          by_cases e : i = x
          · rw [e, pk_us]
            unfold mh_fa
            rw [if_pos (by simp)]
          · rw [pk_un e, q4 i hi]
            unfold mh_fa
            have : (led i || i == x) = led i := by
              have e2 : (i == x) = false := by simpa using e
              rw [e2, Bool.or_false]
            show (if led i = true then _ else _) = if (led i || i == x) = true then _ else _
            rw [this]) (fun i hi => by have := b1 i hi; omega) x2
        refine ⟨(t + 1, H3), ⟨c, q2.trans (show mh_fr [bd 61] hh H3 from (by rw [eH2] at u3; exact (mh_fr.up List.mem_cons_self).trans u3)), fa3, u2, fun i hi => ?_⟩, by show N - (t + 1) < N - t; omega, ?_⟩
        · show fa3 i = mh_fa (mh_pm N (fun p q => mh_df (V p) (V q)) (t + 1)).1 (mh_pm N (fun p q => mh_df (V p) (V q)) (t + 1)).2.1 i
          rw [epm]
          exact u4 i hi
        · rw [if_neg (fun q => absurd ((nI_leI (by omega) (by omega)).mp q) (by omega)), mh_nm_eq, mh_nm_eq, nn, x1]
          unfold f_X12_apart_b244
          have ex : mh_no (some x) = nI x := rfl
          rw [ex, mh_gR_eq (k := 21) ho' rfl, Option.bind_some, mh_aI_eq q3 (show x < 200 by omega) (by omega), Option.bind_some, fx', emax, mh_nm_eq, Option.bind_some, s2, Option.bind_some, mh_nm_eq, u1]
          unfold f_X12_apart_b320
          rw [mh_nm_eq, mh_inc]
          show _ = f_X12_apart_b176 m (bd 0) (nI (mh_pm N (fun p q => mh_df (V p) (V q)) (t + 1)).2.2) (nI (t + 1 + 1)) H3
          rw [epm]
      · right
        have e : t = N - 1 := by omega
        refine ⟨hh, ⟨q2, fa', q3⟩, ?_⟩
        rw [if_pos ((nI_leI (by omega) (by omega)).mpr (by omega)), e]
        rfl)
    200 mh_fu (0, h1) (by show N - 0 ≤ 200; omega) ⟨h0, y1, fa1, y2, y3⟩ (mh_fuel _ (by omega))
  obtain ⟨h2, ⟨z1, fa2, z2⟩, z3⟩ := k2
  have z3 : f_X12_apart_b176 mh_fu (bd 0) 0 1 h1 = some (nI (mh_pm N (fun p q => mh_df (V p) (V q)) (N - 1)).2.2, h2) := z3
  refine ⟨h2, fa2, ?_, z2, z1⟩
  rw [y4]
  unfold f_X12_apart_b173
  rw [mh_nm_eq, z3]
theorem mh_M_apart (hR : mh_RI h bd σ F) (x1 x2 : Int32) : ∃ r v h' F', f_X12_apart_e (bd 0) x1 x2 h = some (v, h') ∧ mh_Qm σ x1 (mh_Bap x2) r ∧ mh_an r v F' ∧ mh_RI h' bd σ F' ∧ mh_frR bd h h' := by
  obtain ⟨h1, F1, p1, R1, z1, f1⟩ := mh_r_code hR
  unfold f_X12_apart_e
  rw [p1, Option.bind_some]
  rcases mh_r_isMint (h := h1) x1 with ⟨p, a1, a2, a3⟩ | ⟨a1, a3⟩
  · subst a2
    rw [mh_b2_eq a3, if_neg (by decide)]
    have bad : (∀ s, s ≤ 3000 → x2 ≠ nI s) → ∃ r v h' F', f_X12_apart_b29 (bd 0) h1 = some (v, h') ∧ mh_Qm σ (nI p) (mh_Bap x2) r ∧ mh_an r v F' ∧ mh_RI h' bd σ F' ∧ mh_frR bd h h' := fun hb => by
      obtain ⟨h2, F2, y1, R2, z2, f2⟩ := mh_r_fl R1 2 (fun v12 h11 => some (v12, h11))
      exact ⟨.inl 2, _, h2, F2, y1, Or.inr ⟨p, a1, rfl, Or.inr ⟨hb, rfl⟩⟩, Or.inr ⟨2, rfl, z2⟩, R2, f1.trans f2⟩
    rcases mh_sgn x2 with ⟨q1, q2⟩ | ⟨q1, s, q2, q3⟩
    · rw [if_pos q1]
      exact bad (fun s hs => q2 s (by omega))
    · subst q3
      rw [if_neg q1]
      by_cases c : s < 3001
      · obtain ⟨g, hg, hw⟩ := R1.2 1 (by omega)
        obtain ⟨w1, w2, w3, w4, _⟩ := hw p a1
        obtain ⟨h2, y1, R2, W2, f2⟩ := mh_r_countM R1 a1
        obtain ⟨g', hg', hw'⟩ := R2.2 1 (by omega)
        have w4' := (hw' p a1).2.2.2.1
        obtain ⟨G, v1, v2, v3⟩ := W2
        have hl := w1.1.1
        have hcap : mh_CAP = 4000000000000000001 := rfl
        have good : ∀ r, ((mh_wy (mh_mi σ p) (mh_mi σ p).length s = 0 ∧ r = .inr (-1)) ∨ (1 ≤ mh_wy (mh_mi σ p) (mh_mi σ p).length s ∧ mh_wy (mh_mi σ p) (mh_mi σ p).length s ≤ 200 ∧ r = .inr (nI (mh_pm (mh_wy (mh_mi σ p) (mh_mi σ p).length s) (fun x q => mh_df (mh_ly (mh_mi σ p) (mh_mi σ p).length s x) (mh_ly (mh_mi σ p) (mh_mi σ p).length s q)) (mh_wy (mh_mi σ p) (mh_mi σ p).length s - 1)).2.2)) ∨ (200 < mh_wy (mh_mi σ p) (mh_mi σ p).length s ∧ r = .inr (-2))) → mh_Qm σ (nI p) (mh_Bap (nI s)) r := fun r hr => Or.inr ⟨p, a1, rfl, Or.inl ⟨s, by omega, rfl, hr⟩⟩
        have hI := R2.1
        rw [if_pos ((mh_ltr (b := 3001) 3001 rfl (by omega) (by omega)).mpr c), mh_gR_eq (k := 1) R1.ob rfl, Option.bind_some, mh_b2_eq mh_r_mintAt, mh_aI_eq hg (show 13 * p < 304 by omega) (by omega), Option.bind_some, w3, mh_gR_eq (k := 1) R1.ob rfl, Option.bind_some, mh_b2_eq mh_r_mintAt, nI_1, mh_cal_eq R1.ob, y1, Option.bind_some, mh_gR_eq (k := 12) R2.ob rfl, Option.bind_some, mh_aR_eq v1 (show (mh_mi σ p).length < 13 by omega) (by omega) rfl, Option.bind_some, mh_aJ_eq (v2 _ (by omega)) (show s < 3001 by omega) (by omega), Option.bind_some, v3 _ (Nat.le_refl _) s (by omega)]
        obtain ⟨cs, ecs⟩ : ∃ cs, cs = mh_mi σ p := ⟨_, rfl⟩
        rw [← ecs] at good v3 w1 w4' hl ⊢
        have wl := mh_wy_le cs cs.length s
        obtain ⟨N, eN⟩ : ∃ N, N = mh_wy cs cs.length s := ⟨_, rfl⟩
        rw [← eN] at good wl ⊢
        by_cases c0 : N = 0
        · rw [if_pos (show lg_cmp (lN N) (0 : Int64) = 0 from (mh_ceqN (b := 0) (by omega) (by omega)).mpr c0)]
          exact ⟨_, _, h2, F1, rfl, good _ (Or.inl ⟨c0, rfl⟩), Or.inl ⟨rfl, z1⟩, R2, f1.trans f2⟩
        · rw [if_neg (fun q : lg_cmp (lN N) (0 : Int64) = 0 => c0 ((mh_ceqN (b := 0) (by omega) (by omega)).mp q)), Option.bind_some, mh_aR_eq v1 (show cs.length < 13 by omega) (by omega) rfl, Option.bind_some, mh_aJ_eq (v2 _ (by omega)) (show s < 3001 by omega) (by omega), Option.bind_some, v3 _ (Nat.le_refl _) s (by omega), ← eN]
          by_cases c2 : N ≤ 200
          · obtain ⟨t1, t2, t3, t4, t5, t6, k1, k2, k3, k4, k5, k6⟩ := R2.2 8 (by omega)
            have p3 : mh_pI h2 (bd 0) 12 22 0 = some (mh_up h2 (bd 0) (.inr (12, mh_rf bd (upd F1 22 0)))) := mh_pI_s _ R2.ob ⟨show 22 < 38 by omega, rfl⟩
            obtain ⟨h3, e3⟩ : ∃ h3, h3 = mh_up h2 (bd 0) (.inr (12, mh_rf bd (upd F1 22 0))) := ⟨_, rfl⟩
            rw [← e3] at p3
            have o3 : h3 (bd 0) = some (.inr (12, mh_rf bd (upd F1 22 0))) := by rw [e3]; exact mh_up_eq _ _ _
            have kx3 : ∀ y, y < 99 → y ≠ 0 → h3 (bd y) = h2 (bd y) := fun y hy e => by rw [e3]; exact mh_up_ne (hI.ne hy (by omega) e)
            -- counting is nothing
            have zer := mh_wh (fun m (q : Nat × mh_H) => f_X12_apart_b101 m (bd 0) (nI p) (nI s) (nI cs.length) (nI q.1) q.2) (fun (r : mh_H) => f_X12_apart_b122 (bd 0) (nI p) (nI s) (nI cs.length) r) (fun q => q.1 ≤ 12 ∧ mh_fr [bd 60] h3 q.2 ∧ ∃ fc, q.2 (bd 60) = some (.inl (0, 12, .inl fc)) ∧ ∀ i, i < q.1 → fc i = 0) (fun q => 12 - q.1) (fun r => mh_fr [bd 60] h3 r ∧ ∃ fc, r (bd 60) = some (.inl (0, 12, .inl fc)) ∧ ∀ i, i < 12 → fc i = 0)
              (fun m q hq => by
                obtain ⟨k, hh⟩ := q
                obtain ⟨q1, q2, fc, q3, q4⟩ := hq
                have q1 : k ≤ 12 := q1
                have q2 : mh_fr [bd 60] h3 hh := q2
                have q3 : hh (bd 60) = some (.inl (0, 12, .inl fc)) := q3
                have q4 : ∀ i, i < k → fc i = 0 := q4
                show (∃ s', _ ∧ _ ∧ f_X12_apart_b101 (m + 1) (bd 0) (nI p) (nI s) (nI cs.length) (nI k) hh = _) ∨ ∃ r, _ ∧ f_X12_apart_b101 (m + 1) (bd 0) (nI p) (nI s) (nI cs.length) (nI k) hh = _
                have ho' := (q2 (bd 0) (by simp [hI.ne (show 0 < 99 by omega) (show 60 < 99 by omega) (by omega)])).trans o3
                rw [f_X12_apart_b101]
                by_cases ck : k < 12
                · left
                  refine ⟨(k + 1, mh_up hh (bd 60) (.inl (0, 12, .inl (upd fc k 0)))), ⟨ck, q2.trans (mh_fr.up List.mem_cons_self), _, mh_up_eq _ _ _, fun i hi => ?_⟩, by show 12 - (k + 1) < 12 - k; omega, ?_⟩
                  · have hi : i < k + 1 := hi
                    by_cases e : i = k
                    · rw [e, pk_us]
                    · rw [pk_un e]; exact q4 i (by omega)
                  · rw [if_neg (fun q => absurd ((mh_lel (a := 12) 12 rfl (by omega) (by omega)).mp q) (by omega)), mh_gR_eq (k := 20) ho' rfl, Option.bind_some, mh_sI_eq q3 ck (by omega), Option.bind_some, mh_nm_eq, mh_inc]
                · right
                  exact ⟨hh, ⟨q2, fc, q3, fun i hi => q4 i (by omega)⟩, by rw [if_pos ((mh_lel (a := 12) 12 rfl (by omega) (by omega)).mpr (by omega))]⟩)
              12 mh_fu (0, h3) (by show 12 - 0 ≤ 12; omega) ⟨Nat.zero_le _, mh_fr.rfl, t2, (kx3 60 (by omega) (by omega)).trans k2, fun i hi => absurd hi (Nat.not_lt_zero i)⟩ (mh_fuel _ (by omega))
            obtain ⟨h4, ⟨x1, fc, x2, x3⟩, x4⟩ := zer
            have x4 : f_X12_apart_b101 mh_fu (bd 0) (nI p) (nI s) (nI cs.length) 0 h3 = _ := x4
            have kx4 : ∀ y, y < 99 → y ≠ 60 → h4 (bd y) = h3 (bd y) := fun y hy e => x1 _ (by simp [hI.ne hy (show 60 < 99 by omega) e])
            have L4 : mh_Lt h2 h4 bd F1 0 (fun _ => []) (mh_cj cs.length []) := by
              refine ⟨?_, ⟨upd F1 22 0, (kx4 0 (by omega) (by omega)).trans o3, pk_us, fun j e => pk_un e⟩, ⟨t1, ((kx4 59 (by omega) (by omega)).trans (kx3 59 (by omega) (by omega))).trans k1, fun r i hr => absurd hr (Nat.not_lt_zero r)⟩, fc, x2, fun i x hi hx => ?_⟩
              · rw [e3] at x1
                exact (mh_fr.up (show bd 0 ∈ [bd 0, bd 59, bd 60] by simp)).trans (x1.sub (fun x hx => by rw [List.mem_singleton.mp hx]; simp))
              · have hx : x = if i < cs.length then 0 else ([] : List Nat).getD (i - cs.length) 0 := hx
                have : x = 0 := by
                  rw [hx]
                  by_cases e : i < cs.length
                  · rw [if_pos e]
                  · rw [if_neg e]; rfl
                rw [this]; exact x3 i hi
            obtain ⟨h5, y5, L5⟩ := mh_r_list (h := h2) (F := F1) hI a1 hg' w4' v1 v2 v3 w1 cs.length 20 s 0 h4 (fun _ => []) [] (by omega) (Nat.le_refl _) (by omega) (by omega) (fun i => by show 0 < 2 ^ 31; omega) L4
            rw [← eN, Nat.zero_add] at L5
            obtain ⟨m1, ⟨F5, m2, m3, m4⟩, ⟨fl, m5, m6⟩, fc5, m7, _⟩ := L5
            have k61 : h5 (bd 61) = some (.inl (0, 200, .inl t3)) := (m1 _ (by simp [hI.ne (show 61 < 99 by omega) (show 0 < 99 by omega) (by omega), hI.ne (show 61 < 99 by omega) (show 59 < 99 by omega) (by omega), hI.ne (show 61 < 99 by omega) (show 60 < 99 by omega) (by omega)])).trans k3
            have hV : ∀ r i, r < N → i < 12 → fl (12 * r + i) = nI ((mh_ly cs cs.length s r).getD i 0) := fun r i hr hi => by
              have := m6 r i hr hi
              have : fl (12 * r + i) = nI ((if r < 0 then [] else mh_ly cs cs.length s (r - 0) ++ []).getD i 0) := this
              rwa [if_neg (Nat.not_lt_zero r), Nat.sub_zero, List.append_nil] at this
            obtain ⟨h6, fa6, n1, n2, n3⟩ := mh_r_tree (h := h5) (F := F5) (V := fun r => mh_ly cs cs.length s r) hI m2 m3 (by omega) c2 m5 hV (fun r i hr => Nat.le_trans (mh_ly_b cs cs.length s r i) (by omega)) k61
            have kx6 : ∀ y, y < 99 → y ≠ 61 → h6 (bd y) = h5 (bd y) := fun y hy e => n3 _ (by simp [hI.ne hy (show 61 < 99 by omega) e])
            have kx5 : ∀ y, y < 99 → y ≠ 0 → y ≠ 59 → y ≠ 60 → h5 (bd y) = h2 (bd y) := fun y hy e1 e2 e3 => m1 _ (by simp [hI.ne hy (show 0 < 99 by omega) e1, hI.ne hy (show 59 < 99 by omega) e2, hI.ne hy (show 60 < 99 by omega) e3])
            have o4 : h4 (bd 0) = some (.inr (12, mh_rf bd (upd F1 22 0))) := (kx4 0 (by omega) (by omega)).trans o3
            obtain ⟨R6, f6⟩ := R2.fl (h' := h6) (F' := F5) (fun j _ _ e _ _ _ => m4 j e) ((kx6 0 (by omega) (by omega)).trans m2) [8] (fun i hi => by rw [List.mem_singleton.mp hi]; omega) (fun b b1 b2 => by
              have d : ∀ y, 59 ≤ y → y < 65 → b ≠ bd y := fun y y1 y2 => b2 8 (by decide) y y1 y2
              exact (n3 b (by simp [d 61 (by omega) (by omega)])).trans (m1 b (by simp [b1, d 59 (by omega) (by omega), d 60 (by omega) (by omega)]))) (fun i hi => by
              rw [List.mem_singleton.mp hi]
              exact ⟨fl, fc5, fa6, t4, t5, t6, (kx6 59 (by omega) (by omega)).trans m5, (kx6 60 (by omega) (by omega)).trans m7, n2, ((kx6 62 (by omega) (by omega)).trans (kx5 62 (by omega) (by omega) (by omega) (by omega))).trans k4, ((kx6 63 (by omega) (by omega)).trans (kx5 63 (by omega) (by omega) (by omega) (by omega))).trans k5, ((kx6 64 (by omega) (by omega)).trans (kx5 64 (by omega) (by omega) (by omega) (by omega))).trans k6⟩)
            rw [if_pos (show lg_cmp (lN N) (200 : Int64) ≤ 0 from (mh_cleN (b := 200) (by omega) (by omega)).mpr c2), p3, Option.bind_some, mh_nm_eq, x4]
            unfold f_X12_apart_b122
            rw [mh_cal_eq o4, y5, Option.bind_some, mh_nm_eq, mh_nm_eq, n1]
            exact ⟨_, _, h6, F5, rfl, good _ (Or.inr (Or.inl ⟨by omega, c2, rfl⟩)), Or.inl ⟨rfl, (m4 0 (by omega)).trans z1⟩, R6, (f1.trans f2).trans f6⟩
          · rw [if_neg (fun q : lg_cmp (lN N) (200 : Int64) ≤ 0 => c2 ((mh_cleN (b := 200) (by omega) (by omega)).mp q))]
            exact ⟨_, _, h2, F1, rfl, good _ (Or.inr (Or.inr ⟨by omega, rfl⟩)), Or.inl ⟨rfl, z1⟩, R2, f1.trans f2⟩
      · rw [if_neg (fun q => c ((mh_ltr (b := 3001) 3001 rfl (by omega) (by omega)).mp q))]
        refine bad (fun t ht e => c ?_)
        have := (nI_eq (by omega) (by omega)).mp e
        omega
  · obtain ⟨h2, F2, y1, R2, z2, f2⟩ := mh_r_fl R1 1 (fun v12 h11 => some (v12, h11))
    have y1 : mh_b2 (mh_cal h1 (bd 0) 12 (f_X12_fail_e (bd 0) (1 : Int32) h1)) _ = _ := y1
    rw [mh_b2_eq a3, if_pos rfl, y1]
    exact ⟨.inl 1, _, h2, F2, rfl, Or.inl ⟨a1, rfl⟩, Or.inr ⟨1, rfl, z2⟩, R2, f1.trans f2⟩
end MhModelAp
