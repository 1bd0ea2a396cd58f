/-! Fewest: sizes as the class has them -/
def mh_sz (o : Option Nat) : Int32 := match o with
  | none => -1
  | some n => nI n
theorem mh_nI_m1 {n : Nat} (h : n < 2 ^ 31) : ¬ nI n = (-1 : Int32) := fun q => by
  have := congrArg Int32.toInt q
  rw [nI_toInt h] at this
  have e : (-1 : Int32).toInt = -1 := rfl
  rw [e] at this
  omega
/-- the least of what the first i coins lead to -/
def mh_lb (cs : List Nat) (s i : Nat) (b : Option Nat) : Prop :=
  (∀ j n, j < i → cs.getD j 0 ≤ s → mh_mn cs (s - cs.getD j 0) = some n → ∃ m, b = some m ∧ m ≤ n + 1) ∧
  ∀ m, b = some m → ∃ j n, j < i ∧ cs.getD j 0 ≤ s ∧ mh_mn cs (s - cs.getD j 0) = some n ∧ m = n + 1
theorem mh_mem_get {cs : List Nat} {c : Nat} (h : c ∈ cs) : ∃ j, j < cs.length ∧ cs.getD j 0 = c := by
  obtain ⟨j, hj, e⟩ := List.getElem_of_mem h
  exact ⟨j, hj, by rw [List.getD_eq_getElem?_getD, List.getElem?_eq_getElem hj]; exact e⟩
theorem mh_lb_end {cs : List Nat} {s : Nat} {b : Option Nat} (hs : 0 < s) (h : mh_lb cs s cs.length b) : b = mh_mn cs s := by
  cases hm : mh_mn cs s with
  | none =>
    cases b with
    | none => rfl
    | some m =>
      exfalso
      obtain ⟨j, n, h1, h2, h3, h4⟩ := h.2 m rfl
      have := mh_pay_c (mh_get_mem h1) (mh_mn_pay h3)
      rw [Nat.sub_add_cancel h2] at this
      exact mh_mn_none.mp hm ⟨_, this⟩
  | some k =>
    obtain ⟨c, m, q1, q2, q3, q4⟩ := mh_pay_inv (mh_mn_pay hm) hs
    obtain ⟨j, h1, h2⟩ := mh_mem_get q1
    obtain ⟨n, hn⟩ := mh_mn_ex ⟨m, q4⟩
    have hnm := mh_mn_le hn q4
    rw [← h2] at q2 hn
    obtain ⟨y, e1, e2⟩ := h.1 j n h1 q2 hn
    subst e1
    obtain ⟨j2, n2, p1, p2, p3, p4⟩ := h.2 y rfl
    have := mh_pay_c (mh_get_mem p1) (mh_mn_pay p3)
    rw [Nat.sub_add_cancel p2] at this
    have := mh_mn_le hm this
    congr 1
    omega
theorem mh_fx2_sizeByLesser {h : mh_H} {o a u t k s : Nat} {fc ft : Nat → Int32} {y tn : Int32} {cs : List Nat} (ho : h o = some (.inr (2, [.ref a, .ref t, .ref k, .int y, .int tn]))) (hc : mh_Co h a u fc cs) (ht : h t = some (.inl (0, 90000, .inl ft))) (hmt : mh_mt cs) (h1 : 1 ≤ s) (h2 : s < 90000) (hf : ∀ x, x < s → ft x = mh_sz (mh_mn cs x)) : f_X2_sizeByLesser_e o (nI s) h = some (mh_sz (mh_mn cs s), h) := by
  have hl := hmt.1
  have hp : ∀ x, x ∈ cs → 1 ≤ x := fun x hx => (hmt.2 x hx).1
  have g0 : mh_gR h o 2 0 = some a := mh_gR_eq ho rfl
  have g1 : mh_gR h o 2 1 = some t := mh_gR_eq ho rfl
  have key := mh_wh (fun n (q : Nat × Option Nat) => f_X2_sizeByLesser_b4 n o (nI s) (mh_sz q.2) (nI q.1) h) (fun (b : Option Nat) => some (mh_sz b, h)) (fun q => q.1 ≤ cs.length ∧ mh_lb cs s q.1 q.2) (fun q => cs.length - q.1) (fun b => b = mh_mn cs s)
    (fun n q hq => by
      obtain ⟨i, b⟩ := q
      obtain ⟨q1, q2⟩ := hq
      have q1 : i ≤ cs.length := q1
      have q2 : mh_lb cs s i b := q2
      show (∃ s', _ ∧ _ ∧ f_X2_sizeByLesser_b4 (n + 1) o (nI s) (mh_sz b) (nI i) h = _) ∨ ∃ r, _ ∧ f_X2_sizeByLesser_b4 (n + 1) o (nI s) (mh_sz b) (nI i) h = _
      by_cases hi : i < cs.length
      · left
        have hci := hmt.get hi
        have c1 : ¬ nI cs.length ≤ nI i := fun q => absurd ((nI_leI (by omega) (by omega)).mp q) (by omega)
        have skip : (∀ m, ¬ (cs.getD i 0 ≤ s ∧ mh_mn cs (s - cs.getD i 0) = some m)) → mh_lb cs s (i + 1) b := fun hn => ⟨fun j m r1 r2 r3 => by
            by_cases hj : j = i
            · subst hj; exact absurd ⟨r2, r3⟩ (hn m)
            · exact q2.1 j m (by omega) r2 r3, fun m r => by
            obtain ⟨j, n, p1, p2⟩ := q2.2 m r
            exact ⟨j, n, by omega, p2⟩⟩
        by_cases hcs : cs.getD i 0 ≤ s
        · have c2 : ¬ nI (s - cs.getD i 0) < 0 := nI_pos (by omega)
          have hval := hf (s - cs.getD i 0) (by omega)
          cases hm : mh_mn cs (s - cs.getD i 0) with
          | none =>
            refine ⟨(i + 1, b), ⟨hi, skip (fun m r => by rw [hm] at r; exact absurd r.2 (by simp))⟩, by show cs.length - (i + 1) < cs.length - i; omega, ?_⟩
            rw [f_X2_sizeByLesser_b4, g0, Option.bind_some, mh_cal_eq hc.1, mh_b2_eq (mh_fx1_count hc), if_neg c1, g0, Option.bind_some, mh_cal_eq hc.1, mh_b2_eq (mh_fx1_value hc (by omega)), mh_nm_eq, pk_sub hcs, if_neg c2, g1, Option.bind_some, mh_aI_eq ht (by omega) (by omega), Option.bind_some, hval, hm]
            unfold f_X2_sizeByLesser_b43
            rw [if_pos (show mh_sz none = (-1 : Int32) from rfl)]
            unfold f_X2_sizeByLesser_b69
            rw [mh_nm_eq, mh_inc]
          | some m =>
            have hmb := mh_mn_b hp hm
            have c3 : ¬ nI m = (-1 : Int32) := mh_nI_m1 (by omega)
            have better : (∀ y, b = some y → m + 1 < y) → mh_lb cs s (i + 1) (some (m + 1)) := fun hn => ⟨fun j z r1 r2 r3 => by
                by_cases hj : j = i
                · subst hj; rw [hm] at r3; cases r3; exact ⟨_, rfl, Nat.le_refl _⟩
                · obtain ⟨y, p1, p2⟩ := q2.1 j z (by omega) r2 r3
                  have := hn y p1
                  exact ⟨_, rfl, by omega⟩, fun y r => by
                cases r
                exact ⟨i, m, by omega, hcs, hm, rfl⟩⟩
            have step : f_X2_sizeByLesser_b4 (n + 1) o (nI s) (mh_sz b) (nI i) h = f_X2_sizeByLesser_b43 (f_X2_sizeByLesser_b4 n) o (nI s) (mh_sz b) (nI i) (nI m) h := by
              rw [f_X2_sizeByLesser_b4, g0, Option.bind_some, mh_cal_eq hc.1, mh_b2_eq (mh_fx1_count hc), if_neg c1, g0, Option.bind_some, mh_cal_eq hc.1, mh_b2_eq (mh_fx1_value hc (by omega)), mh_nm_eq, pk_sub hcs, if_neg c2, g1, Option.bind_some, mh_aI_eq ht (by omega) (by omega), Option.bind_some, hval, hm]
              rfl
            cases hb : b with
            | none =>
              refine ⟨(i + 1, some (m + 1)), ⟨hi, better (fun y r => by rw [hb] at r; cases r)⟩, by show cs.length - (i + 1) < cs.length - i; omega, ?_⟩
              rw [hb] at step
              rw [step]
              unfold f_X2_sizeByLesser_b43
              rw [if_neg c3, if_pos (show mh_sz none = (-1 : Int32) from rfl)]
              unfold f_X2_sizeByLesser_b64 f_X2_sizeByLesser_b69
              rw [mh_nm_eq, mh_nm_eq, mh_inc, nI_1]
              rfl
            | some y =>
              have hyb : y ≤ s := by
                obtain ⟨j, n, p1, p2, p3, p4⟩ := q2.2 y hb
                have := mh_mn_b hp p3
                have := (hmt.get (show j < cs.length by omega)).1
                omega
              rw [hb] at step
              have c4 : ¬ mh_sz (some y) = (-1 : Int32) := mh_nI_m1 (by omega)
              have e5 : nI m + (1 : Int32) = nI (m + 1) := nI_1 m
              by_cases hy : m + 1 < y
              · refine ⟨(i + 1, some (m + 1)), ⟨hi, better (fun z r => by rw [hb] at r; cases r; exact hy)⟩, by show cs.length - (i + 1) < cs.length - i; omega, ?_⟩
                rw [step]
                unfold f_X2_sizeByLesser_b43
                have c5 : ¬ mh_sz (some y) ≤ nI (m + 1) := fun q => absurd ((nI_leI (a := y) (by omega) (by omega)).mp q) (by omega)
                rw [if_neg c3, if_neg c4, e5, if_neg c5]
                unfold f_X2_sizeByLesser_b64 f_X2_sizeByLesser_b69
                rw [mh_nm_eq, mh_nm_eq, mh_inc, nI_1]
                rfl
              · refine ⟨(i + 1, some y), ⟨hi, ⟨fun j z r1 r2 r3 => ?_, fun z r => ?_⟩⟩, by show cs.length - (i + 1) < cs.length - i; omega, ?_⟩
                · by_cases hj : j = i
                  · subst hj; rw [hm] at r3; cases r3; exact ⟨_, rfl, by omega⟩
                  · have r1 : j < i + 1 := r1
                    obtain ⟨y', p1, p2⟩ := q2.1 j z (by omega) r2 r3
                    rw [hb] at p1
                    exact ⟨y', p1, p2⟩
                · cases r
                  obtain ⟨j, n, p1, p2⟩ := q2.2 y hb
                  exact ⟨j, n, by show j < i + 1; omega, p2⟩
                · rw [step]
                  unfold f_X2_sizeByLesser_b43
                  have c5 : mh_sz (some y) ≤ nI (m + 1) := (nI_leI (a := y) (by omega) (by omega)).mpr (by omega)
                  rw [if_neg c3, if_neg c4, e5, if_pos c5]
                  unfold f_X2_sizeByLesser_b69
                  rw [mh_nm_eq, mh_inc]
        · have c2 : nI s - nI (cs.getD i 0) < 0 := pk_sneg (by omega) (by omega)
          refine ⟨(i + 1, b), ⟨hi, skip (fun m r => hcs r.1)⟩, by show cs.length - (i + 1) < cs.length - i; omega, ?_⟩
          rw [f_X2_sizeByLesser_b4, g0, Option.bind_some, mh_cal_eq hc.1, mh_b2_eq (mh_fx1_count hc), if_neg c1, g0, Option.bind_some, mh_cal_eq hc.1, mh_b2_eq (mh_fx1_value hc (by omega)), mh_nm_eq, if_pos c2]
          unfold f_X2_sizeByLesser_b43
          rw [if_pos rfl]
          unfold f_X2_sizeByLesser_b69
          rw [mh_nm_eq, mh_inc]
      · right
        have e : i = cs.length := by omega
        subst e
        have c1 : nI cs.length ≤ nI cs.length := (nI_leI (by omega) (by omega)).mpr (Nat.le_refl _)
        refine ⟨b, mh_lb_end h1 q2, ?_⟩
        rw [f_X2_sizeByLesser_b4, g0, Option.bind_some, mh_cal_eq hc.1, mh_b2_eq (mh_fx1_count hc), if_pos c1]
        rfl)
    cs.length mh_fu (0, none) (by show cs.length - 0 ≤ _; omega) ⟨Nat.zero_le _, ⟨fun j n r => absurd r (Nat.not_lt_zero j), fun m r => by cases r⟩⟩ (mh_fuel _ (by omega))
  obtain ⟨b, e1, e2⟩ := key
  rw [e1] at e2
  have e2 : f_X2_sizeByLesser_b4 mh_fu o (nI s) (mh_sz none) (nI 0) h = _ := e2
  rw [nI_0] at e2
  exact e2
