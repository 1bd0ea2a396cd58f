section MhModelJ
variable {h : mh_H} {bd : Nat → Nat} {σ : mh_Sg} {F : Nat → Int32}
theorem mh_r_ms (hR : mh_RI h bd σ F) {p : Nat} (hp : p < 8) : mh_ms (mh_mi σ p) := by
  obtain ⟨g, hg, hw⟩ := hR.2 1 (by omega)
  exact (hw p hp).1
/-- the needed coins of a mint -/
theorem mh_r_need (hR : mh_RI h bd σ F) {p : Nat} (hp : p < 8) : ∃ h1 F1 h2 F2, f_X12_take_e (bd 0) (nI p) h = some h1 ∧ f_X12_keepNeeded_e (bd 0) h1 = some h2 ∧ mh_RI h1 bd σ F1 ∧ mh_RI h2 bd σ F2 ∧ (∀ j, j ≠ 14 → F2 j = F j) ∧ mh_Sm h2 bd F2 (mh_need (mh_mi σ p)) ∧ mh_frR bd h h2 ∧ mh_fr [bd 0, bd 56, bd 94] h h2 := by
  have hm := mh_r_ms hR hp
  have hl := hm.1.1
  obtain ⟨h1, F1, a1, a2, a3, a4, a5, a6⟩ := mh_r_take hR hp
  obtain ⟨h2, F2, b1, b2, b3, b4, b5, b6⟩ := mh_r_keep a2 a4 (by omega) hm.1.2 hm.2
  exact ⟨h1, F1, h2, F2, a1, b1, a2, b2, fun j e => (b3 j e).trans (a3 j e), b4, a5.trans b5, (a6.sub (fun x hx => by simp only [List.mem_cons, List.not_mem_nil, or_false] at hx ⊢; rcases hx with q | q <;> simp [q])).trans b6⟩
theorem mh_M_needed (hR : mh_RI h bd σ F) (x1 : Int32) : ∃ r v h' F', f_X12_needed_e (bd 0) x1 h = some (v, h') ∧ mh_Qm σ x1 (fun cs r => r = .inr (mh_nb cs (mh_need cs) cs.length)) r ∧ mh_an r v F' ∧ mh_RI h' bd σ F' ∧ mh_frR bd h h' := by
  obtain ⟨h1, F1, p1, R1, z1, f1⟩ := mh_r_code hR
  unfold f_X12_needed_e
  rw [p1, Option.bind_some]
  rcases mh_r_isMint (h := h1) x1 with ⟨p, a1, a2, a3⟩ | ⟨a1, a3⟩
  · subst a2
    obtain ⟨h2, F2, h3, F3, y1, y2, R2, R3, z3, S3, f3, _⟩ := mh_r_need R1 a1
    obtain ⟨g, hg, hw⟩ := R3.2 1 (by omega)
    obtain ⟨w1, w2, w3, w4, _⟩ := hw p a1
    have ho := R3.ob
    rw [mh_b2_eq a3, if_neg (by decide), mh_cal_eq R1.ob, y1, Option.bind_some, mh_cal_eq R2.ob, y2, Option.bind_some, mh_nm_eq, mh_nm_eq, mh_nm_eq]
    have good : ∀ v, v = mh_nb (mh_mi σ p) (mh_need (mh_mi σ p)) (mh_mi σ p).length → mh_Qm σ (nI p) (fun cs r => r = .inr (mh_nb cs (mh_need cs) cs.length)) (.inr v) := fun v hv => Or.inr ⟨p, a1, rfl, by rw [hv]; rfl⟩
    obtain ⟨cs, ecs⟩ : ∃ cs, cs = mh_mi σ p := ⟨_, rfl⟩
    rw [← ecs] at w1 w3 w4 S3 good
    obtain ⟨nd, end'⟩ : ∃ nd, nd = mh_need cs := ⟨_, rfl⟩
    have nl : nd.length ≤ 12 := by rw [end']; exact mh_need_len w1
    have nsub : ∀ x, x ∈ nd → x ∈ cs := fun x hx => by rw [end'] at hx; exact (mh_pk_in 300 x hx).2.2
    have npw : nd.Pairwise (· < ·) := by rw [end']; exact mh_pk_pw 300
    rw [← end'] at S3 good
    obtain ⟨s14, f, hf, hfv⟩ := S3
    have hl := w1.1.1
    have key := mh_wh (fun m (q : Nat × Nat) => f_X12_needed_b34 m (bd 0) (nI p) (mh_nb cs nd q.1) (nI q.2) (nI q.1) h3) (fun (r : Int32) => some (r, h3)) (fun q => q.1 ≤ cs.length ∧ q.2 ≤ nd.length ∧ (∀ j, j < q.2 → q.1 < cs.length → nd.getD j 0 < cs.getD q.1 0) ∧ (∀ j, q.2 ≤ j → j < nd.length → ∀ i, i < q.1 → cs.getD i 0 < nd.getD j 0)) (fun q => cs.length - q.1) (fun r => r = mh_nb cs nd cs.length)
      (fun m q hq => by
        obtain ⟨i, k⟩ := q
        obtain ⟨q1, q2, q3, q4⟩ := hq
        have q1 : i ≤ cs.length := q1
        have q2 : k ≤ nd.length := q2
        have q3 : ∀ j, j < k → i < cs.length → nd.getD j 0 < cs.getD i 0 := q3
        have q4 : ∀ j, k ≤ j → j < nd.length → ∀ t, t < i → cs.getD t 0 < nd.getD j 0 := q4
        show (∃ s', _ ∧ _ ∧ f_X12_needed_b34 (m + 1) (bd 0) (nI p) (mh_nb cs nd i) (nI k) (nI i) h3 = _) ∨ ∃ r, _ ∧ f_X12_needed_b34 (m + 1) (bd 0) (nI p) (mh_nb cs nd i) (nI k) (nI i) h3 = _
        rw [f_X12_needed_b34, mh_gR_eq (k := 1) ho rfl, Option.bind_some, mh_b2_eq mh_r_mintAt, mh_aI_eq hg (show 13 * p < 304 by omega) (by omega), Option.bind_some, w3]
        by_cases c : i < cs.length
        · left
          have inc : ∀ t u, t < u → u < cs.length → cs.getD t 0 < cs.getD u 0 := fun t u => mh_pw_ne w1.2
          -- which of nd is not below the coin i
          have hin : cs.getD i 0 ∈ nd ↔ k < nd.length ∧ nd.getD k 0 = cs.getD i 0 := by
            constructor
            · intro q
              obtain ⟨j, j1, j2⟩ := mh_mem_get q
              have jk : k ≤ j := Nat.le_of_not_lt (fun q => by have := q3 j q c; omega)
              refine ⟨by omega, ?_⟩
              obtain ⟨u, u1, u2⟩ := mh_mem_get (nsub _ (mh_get_mem (show k < nd.length by omega)))
              have ui : i ≤ u := Nat.le_of_not_lt (fun q => by have := q4 k (Nat.le_refl _) (by omega) u q; omega)
              have ge : cs.getD i 0 ≤ nd.getD k 0 := by
                by_cases e : u = i
                · rw [← u2, e]; exact Nat.le_refl _
                · have := inc i u (by omega) u1; omega
              by_cases e : j = k
              · rw [← e]; exact j2
              · have := mh_pw_ne npw (show k < j by omega) j1; omega
            · intro q
              rw [← q.2]
              exact mh_get_mem q.1
          have no : ¬ cs.getD i 0 ∈ nd → ∃ s' : Nat × Nat, (s'.1 ≤ cs.length ∧ s'.2 ≤ nd.length ∧ (∀ j, j < s'.2 → s'.1 < cs.length → nd.getD j 0 < cs.getD s'.1 0) ∧ (∀ j, s'.2 ≤ j → j < nd.length → ∀ i, i < s'.1 → cs.getD i 0 < nd.getD j 0)) ∧ cs.length - s'.1 < cs.length - i ∧ f_X12_needed_b89 (f_X12_needed_b34 m) (bd 0) (nI p) (mh_nb cs nd i) (nI k) (nI i) h3 = f_X12_needed_b34 m (bd 0) (nI p) (mh_nb cs nd s'.1) (nI s'.2) (nI s'.1) h3 := fun nm => by
            refine ⟨(i + 1, k), ⟨c, q2, fun j hj hi => ?_, fun j j1 j2 t ht => ?_⟩, by show cs.length - (i + 1) < cs.length - i; omega, ?_⟩
            · have := q3 j hj c
              have := inc i (i + 1) (by omega) hi
              show nd.getD j 0 < cs.getD (i + 1) 0
              omega
            · have ht : t < i + 1 := ht
              by_cases e : t = i
              · subst e
                obtain ⟨u, u1, u2⟩ := mh_mem_get (nsub _ (mh_get_mem j2))
                have ui : t ≤ u := Nat.le_of_not_lt (fun q => by have := q4 j j1 j2 u q; omega)
                by_cases e2 : u = t
                · exact absurd (by rw [← e2, u2]; exact mh_get_mem j2) nm
                · have := inc t u (by omega) u1; omega
              · exact q4 j j1 j2 t (by omega)
            · unfold f_X12_needed_b89
              rw [mh_nm_eq, mh_inc]
              show _ = f_X12_needed_b34 m (bd 0) (nI p) (if cs.getD i 0 ∈ nd then _ else mh_nb cs nd i) (nI k) (nI (i + 1)) h3
              rw [if_neg nm]
          rw [if_neg (fun q => absurd ((nI_leI (by omega) (by omega)).mp q) (by omega)), mh_gI_eq (k := 14) ho rfl, Option.bind_some, s14]
          by_cases ck : k < nd.length
          · have e1 : nI (13 * p) + (1 : Int32) + nI i = nI (13 * p + 1 + i) := by rw [nI_1, nI_add]
            have ndb : nd.getD k 0 ≤ 300 := (w1.1.2 _ (nsub _ (mh_get_mem ck))).2
            have cb := w1.1.get c
            rw [if_neg (fun q => absurd ((nI_leI (by omega) (by omega)).mp q) (by omega)), mh_gR_eq (k := 13) ho rfl, Option.bind_some, mh_aI_eq hf (show k < 24 by omega) (by omega), Option.bind_some, hfv k ck, mh_gR_eq (k := 1) ho rfl, Option.bind_some, mh_b2_eq mh_r_mintAt, e1, mh_aI_eq hg (show 13 * p + 1 + i < 304 by omega) (by omega), Option.bind_some, w4 i c]
            by_cases ce : nd.getD k 0 = cs.getD i 0
            · have nm : cs.getD i 0 ∈ nd := hin.mpr ⟨ck, ce⟩
              refine ⟨(i + 1, k + 1), ⟨c, ck, fun j hj hi => ?_, fun j j1 j2 t ht => ?_⟩, by show cs.length - (i + 1) < cs.length - i; omega, ?_⟩
              · have hj : j < k + 1 := hj
                have := inc i (i + 1) (by omega) hi
                show nd.getD j 0 < cs.getD (i + 1) 0
                by_cases e : j = k
                · rw [e]; omega
                · have := q3 j (by omega) c; omega
              · have ht : t < i + 1 := ht
                have j1 : k + 1 ≤ j := j1
                by_cases e : t = i
                · rw [e, ← ce]; exact mh_pw_ne npw (by omega) j2
                · exact q4 j (by omega) j2 t (by omega)
              · rw [if_pos (by rw [ce]), mh_nm_eq, mh_nm_eq, mh_inc]
                unfold f_X12_needed_b89
                rw [mh_nm_eq, mh_inc]
                show _ = f_X12_needed_b34 m (bd 0) (nI p) (if cs.getD i 0 ∈ nd then _ else mh_nb cs nd i) (nI (k + 1)) (nI (i + 1)) h3
                rw [if_pos nm]
            · rw [if_neg (fun q => ce ((nI_eq (by omega) (by omega)).mp q))]
              exact no (fun q => ce (hin.mp q).2)
          · rw [if_pos ((nI_leI (by omega) (by omega)).mpr (by omega))]
            exact no (fun q => ck (hin.mp q).1)
        · right
          have e : i = cs.length := by omega
          subst e
          exact ⟨_, rfl, by rw [if_pos ((nI_leI (by omega) (by omega)).mpr (by omega))]; rfl⟩)
      12 mh_fu (0, 0) (by show cs.length - 0 ≤ 12; omega) ⟨Nat.zero_le _, Nat.zero_le _, fun j hj => absurd hj (Nat.not_lt_zero j), fun j _ _ t ht => absurd ht (Nat.not_lt_zero t)⟩ (mh_fuel _ (by omega))
    obtain ⟨r, v1, v2⟩ := key
    have v2 : f_X12_needed_b34 mh_fu (bd 0) (nI p) 0 0 0 h3 = some (r, h3) := v2
    rw [v2]
    exact ⟨_, _, h3, F3, rfl, good r v1, Or.inl ⟨rfl, (z3 0 (by omega)).trans z1⟩, R3, f1.trans f3⟩
  · obtain ⟨h2, F2, y1, R2, z2, f2⟩ := mh_r_fl R1 1 (fun v12 h11 => some (v12, h11))
    have y1 : mh_b2 (mh_cal h1 (bd 0) 12 (f_X12_fail_e (bd 0) (1 : Int32) h1)) _ = _ := y1
    rw [mh_b2_eq a3, if_pos rfl, y1]
    exact ⟨.inl 1, _, h2, F2, rfl, Or.inl ⟨a1, rfl⟩, Or.inr ⟨1, rfl, z2⟩, R2, f1.trans f2⟩
theorem mh_r_others {L : List Nat} {f g0 : Nat → Int32} {x2 : Int32} (hI : mh_Inj bd 99) (ho : h (bd 0) = some (.inr (12, mh_rf bd F))) (hl : L.length ≤ 12) (hf : h (bd 56) = some (.inl (0, 24, .inl f))) (hfv : ∀ i, i < L.length → f i = nI (L.getD i 0)) (hg : h (bd 95) = some (.inl (0, 12, .inl g0))) : ∃ h' g, f_X12_same_b44 mh_fu (bd 0) x2 (nI L.length) 0 h = f_X12_same_b70 (bd 0) x2 (nI L.length) h' ∧ h' (bd 95) = some (.inl (0, 12, .inl g)) ∧ mh_fr [bd 95] h h' ∧ ∀ i, i < L.length → g i = nI (L.getD i 0) := by
  have key := mh_wh (fun m (q : Nat × mh_H) => f_X12_same_b44 m (bd 0) x2 (nI L.length) (nI q.1) q.2) (fun (r : mh_H) => f_X12_same_b70 (bd 0) x2 (nI L.length) r) (fun q => q.1 ≤ L.length ∧ mh_fr [bd 95] h q.2 ∧ ∃ g, q.2 (bd 95) = some (.inl (0, 12, .inl g)) ∧ ∀ i, i < q.1 → g i = nI (L.getD i 0)) (fun q => L.length - q.1) (fun r => mh_fr [bd 95] h r ∧ ∃ g, r (bd 95) = some (.inl (0, 12, .inl g)) ∧ ∀ i, i < L.length → g i = nI (L.getD i 0))
    (fun m q hq => by
      obtain ⟨k, hh⟩ := q
      obtain ⟨q1, q2, g, q3, q4⟩ := hq
      have q1 : k ≤ L.length := q1
      have q2 : mh_fr [bd 95] h hh := q2
      have q3 : hh (bd 95) = some (.inl (0, 12, .inl g)) := q3
      have q4 : ∀ i, i < k → g i = nI (L.getD i 0) := q4
      show (∃ s', _ ∧ _ ∧ f_X12_same_b44 (m + 1) (bd 0) x2 (nI L.length) (nI k) hh = _) ∨ ∃ r, _ ∧ f_X12_same_b44 (m + 1) (bd 0) x2 (nI L.length) (nI k) hh = _
      have ho' := (q2 (bd 0) (by simp [hI.ne (show 0 < 99 by omega) (show 95 < 99 by omega) (by omega)])).trans ho
      have hf' := (q2 (bd 56) (by simp [hI.ne (show 56 < 99 by omega) (show 95 < 99 by omega) (by omega)])).trans hf
      rw [f_X12_same_b44]
      by_cases c : k < L.length
      · left
        refine ⟨(k + 1, mh_up hh (bd 95) (.inl (0, 12, .inl (upd g k (nI (L.getD k 0)))))), ⟨c, q2.trans (mh_fr.up List.mem_cons_self), _, mh_up_eq _ _ _, fun i hi => ?_⟩, by show L.length - (k + 1) < L.length - k; omega, ?_⟩
        · have hi : i < k + 1 := hi
          by_cases e : i = k
          · rw [e, pk_us]
          · rw [pk_un e]; exact q4 i (by omega)
        · rw [if_neg (fun q => absurd ((nI_leI (by omega) (by omega)).mp q) (by omega)), mh_gR_eq (k := 34) ho' rfl, Option.bind_some, mh_gR_eq (k := 13) ho' rfl, Option.bind_some, mh_aI_eq hf' (show k < 24 by omega) (by omega), Option.bind_some, hfv k c, mh_sI_eq q3 (by omega) (by omega), Option.bind_some, mh_nm_eq, mh_inc]
      · right
        have e : k = L.length := by omega
        subst e
        exact ⟨hh, ⟨q2, g, q3, q4⟩, by rw [if_pos ((nI_leI (by omega) (by omega)).mpr (by omega))]⟩)
    12 mh_fu (0, h) (by show L.length - 0 ≤ 12; omega) ⟨Nat.zero_le _, mh_fr.rfl, g0, hg, fun i hi => absurd hi (Nat.not_lt_zero i)⟩ (mh_fuel _ (by omega))
  obtain ⟨h', ⟨z1, g, z2, z3⟩, z4⟩ := key
  exact ⟨h', g, z4, z2, z1, z3⟩
theorem mh_lext {a b : List Nat} (hl : a.length = b.length) (h : ∀ i, i < a.length → a.getD i 0 = b.getD i 0) : a = b := by
  refine List.ext_getElem hl (fun i h1 h2 => ?_)
  have := h i h1
  rwa [List.getD_eq_getElem?_getD, List.getD_eq_getElem?_getD, List.getElem?_eq_getElem h1, List.getElem?_eq_getElem h2] at this
theorem mh_M_same (hR : mh_RI h bd σ F) (x1 x2 : Int32) : ∃ r v h' F', f_X12_same_e (bd 0) x1 x2 h = some (v, h') ∧ mh_Ssame σ x1 x2 r ∧ mh_an r v F' ∧ mh_RI h' bd σ F' ∧ mh_frR bd h h' := by
  obtain ⟨h1, F1, p1, R1, z1, f1⟩ := mh_r_code hR
  unfold f_X12_same_e
  rw [p1, Option.bind_some]
  have bad : (∀ a b, a < 8 → b < 8 → ¬ (x1 = nI a ∧ x2 = nI b)) → ∃ r v h' F', f_X12_same_b19 (bd 0) h1 = some (v, h') ∧ mh_Ssame σ x1 x2 r ∧ mh_an r v F' ∧ mh_RI h' bd σ F' ∧ mh_frR bd h h' := fun hb => by
    obtain ⟨h2, F2, y1, R2, z2, f2⟩ := mh_r_fl R1 1 (fun _ h11 => mh_rz (0 : Int32) h11)
    exact ⟨.inl 1, 0, h2, F2, y1, Or.inr ⟨hb, rfl⟩, Or.inr ⟨1, rfl, z2⟩, R2, f1.trans f2⟩
  rcases mh_r_isMint (h := h1) x1 with ⟨a, a1, a2, a3⟩ | ⟨a1, a3⟩
  · subst a2
    rw [mh_b2_eq a3, if_neg (by decide)]
    rcases mh_r_isMint (h := h1) x2 with ⟨b, b1, b2, b3⟩ | ⟨b1, b3⟩
    · subst b2
      rw [mh_b2_eq b3, if_neg (by decide)]
      obtain ⟨h2, F2, h3, F3, y1, y2, R2, R3, z3, S3, f3, _⟩ := mh_r_need R1 a1
      obtain ⟨s14, f, hf, hfv⟩ := S3
      have ma := mh_r_ms R1 a1
      have mb := mh_r_ms R1 b1
      have la := mh_need_len ma
      have lb := mh_need_len mb
      obtain ⟨r1, r2, r3, r4, r5, r6, c1, c0, c2, c3, c4, c5, c6⟩ := R3.2 10 (by omega)
      obtain ⟨h4, g4, u1, u2, u3, u4⟩ := mh_r_others (x2 := nI b) R3.1 R3.ob la hf hfv c3
      have k4 : ∀ y, y < 99 → y ≠ 95 → h4 (bd y) = h3 (bd y) := fun y hy e => u3 _ (by simp [R3.1.ne hy (show 95 < 99 by omega) e])
      obtain ⟨R4, f4⟩ := R3.one (h' := h4) 10 (by omega) (fun b hb => u3 b (by simp [hb 95 (by decide) (by decide)])) ⟨r1, r2, g4, r4, r5, r6, (k4 93 (by omega) (by omega)).trans c1, c0, (k4 94 (by omega) (by omega)).trans c2, u2, (k4 96 (by omega) (by omega)).trans c4, (k4 97 (by omega) (by omega)).trans c5, (k4 98 (by omega) (by omega)).trans c6⟩
      obtain ⟨h5, F5, h6, F6, v1, v2, R5, R6, z6, S6, f6, fr6⟩ := mh_r_need R4 b1
      have g6 : h6 (bd 95) = some (.inl (0, 12, .inl g4)) := (fr6 _ (by simp [R3.1.ne (show 95 < 99 by omega) (show 0 < 99 by omega) (by omega), R3.1.ne (show 95 < 99 by omega) (show 56 < 99 by omega) (by omega), R3.1.ne (show 95 < 99 by omega) (show 94 < 99 by omega) (by omega)])).trans u2
      obtain ⟨t14, f', hf', hfv'⟩ := S6
      have ho6 := R6.ob
      have good : ∀ v, ((mh_need (mh_mi σ a) = mh_need (mh_mi σ b) ∧ v = 1) ∨ (mh_need (mh_mi σ a) ≠ mh_need (mh_mi σ b) ∧ v = 0)) → ∃ r v' h' F', some (v, h6) = some (v', h') ∧ mh_Ssame σ (nI a) (nI b) r ∧ mh_an r v' F' ∧ mh_RI h' bd σ F' ∧ mh_frR bd h h' := fun v hv => ⟨.inr v, v, h6, F6, rfl, Or.inl ⟨a, b, a1, b1, rfl, rfl, by
        rcases hv with ⟨q1, q2⟩ | ⟨q1, q2⟩
        · exact Or.inl ⟨q1, by rw [q2]⟩
        · exact Or.inr ⟨q1, by rw [q2]⟩⟩, Or.inl ⟨rfl, (z6 0 (by omega)).trans ((z3 0 (by omega)).trans z1)⟩, R6, (f1.trans f3).trans (f4.trans f6)⟩
      have ba : ∀ i, i < (mh_need (mh_mi σ a)).length → (mh_need (mh_mi σ a)).getD i 0 ≤ 300 := fun i hi => (mh_pk_in 300 _ (mh_get_mem hi)).2.1
      have bb : ∀ i, i < (mh_need (mh_mi σ b)).length → (mh_need (mh_mi σ b)).getD i 0 ≤ 300 := fun i hi => (mh_pk_in 300 _ (mh_get_mem hi)).2.1
      rw [mh_cal_eq R1.ob, y1, Option.bind_some, mh_cal_eq R2.ob, y2, Option.bind_some, mh_gI_eq (k := 14) R3.ob rfl, Option.bind_some, s14, mh_nm_eq, u1]
      unfold f_X12_same_b70
      rw [mh_cal_eq R4.ob, v1, Option.bind_some, mh_cal_eq R5.ob, v2, Option.bind_some, mh_gI_eq (k := 14) ho6 rfl, Option.bind_some, t14]
      obtain ⟨A, eA⟩ : ∃ A, A = mh_need (mh_mi σ a) := ⟨_, rfl⟩
      obtain ⟨B, eB⟩ : ∃ B, B = mh_need (mh_mi σ b) := ⟨_, rfl⟩
      rw [← eA] at good ba u4 la ⊢
      rw [← eB] at good bb hfv' lb ⊢
      by_cases cl : A.length = B.length
      · rw [if_pos (by rw [cl])]
        unfold f_X12_same_b92
        rw [mh_nm_eq]
        have key := mh_wh (fun m (q : Nat × Nat) => f_X12_same_b97 m (bd 0) (nI A.length) (nI q.2) (nI q.1) h6) (fun (r : Nat) => some (nI r, h6)) (fun q => q.1 ≤ A.length ∧ ((q.2 = 1 ∧ ∀ i, i < q.1 → A.getD i 0 = B.getD i 0) ∨ (q.2 = 0 ∧ A ≠ B))) (fun q => A.length - q.1) (fun r => (r = 1 ∧ A = B) ∨ (r = 0 ∧ A ≠ B))
          (fun m q hq => by
            obtain ⟨k, t⟩ := q
            obtain ⟨q1, q2⟩ := hq
            have q1 : k ≤ A.length := q1
            have q2 : (t = 1 ∧ ∀ i, i < k → A.getD i 0 = B.getD i 0) ∨ (t = 0 ∧ A ≠ B) := q2
            show (∃ s', _ ∧ _ ∧ f_X12_same_b97 (m + 1) (bd 0) (nI A.length) (nI t) (nI k) h6 = _) ∨ ∃ r, _ ∧ f_X12_same_b97 (m + 1) (bd 0) (nI A.length) (nI t) (nI k) h6 = _
            rw [f_X12_same_b97]
            by_cases c : k < A.length
            · rw [if_neg (fun q => absurd ((nI_leI (by omega) (by omega)).mp q) (by omega))]
              rcases q2 with ⟨t1, t2⟩ | ⟨t1, t2⟩
              · subst t1
                left
                have bak := ba k c
                have bbk := bb k (by omega)
                rw [if_neg (show ¬ nI 1 = 0 by decide), mh_gR_eq (k := 34) ho6 rfl, Option.bind_some, mh_aI_eq g6 (show k < 12 by omega) (by omega), Option.bind_some, mh_gR_eq (k := 13) ho6 rfl, Option.bind_some, mh_aI_eq hf' (show k < 24 by omega) (by omega), Option.bind_some, u4 k c, hfv' k (by omega)]
                by_cases ce : A.getD k 0 = B.getD k 0
                · refine ⟨(k + 1, 1), ⟨c, Or.inl ⟨rfl, fun i hi => ?_⟩⟩, by show A.length - (k + 1) < A.length - k; omega, ?_⟩
                  · have hi : i < k + 1 := hi
                    by_cases e : i = k
                    · rw [e]; exact ce
                    · exact t2 i (by omega)
                  · rw [if_pos (by rw [ce])]
                    unfold f_X12_same_b130
                    rw [mh_nm_eq, mh_inc]
                    rfl
                · refine ⟨(k + 1, 0), ⟨c, Or.inr ⟨rfl, fun q => ce (by rw [q])⟩⟩, by show A.length - (k + 1) < A.length - k; omega, ?_⟩
                  rw [if_neg (fun q => ce ((nI_eq (by omega) (by omega)).mp q))]
                  unfold f_X12_same_b130
                  rw [mh_nm_eq, mh_inc]
                  rfl
              · subst t1
                right
                exact ⟨0, Or.inr ⟨rfl, t2⟩, by rw [if_pos (show nI 0 = 0 from rfl)]; rfl⟩
            · right
              rcases q2 with ⟨t1, t2⟩ | ⟨t1, t2⟩
              · subst t1
                exact ⟨1, Or.inl ⟨rfl, mh_lext cl (fun i hi => t2 i (by omega))⟩, by rw [if_pos ((nI_leI (by omega) (by omega)).mpr (by omega))]; rfl⟩
              · subst t1
                exact ⟨0, Or.inr ⟨rfl, t2⟩, by rw [if_pos ((nI_leI (by omega) (by omega)).mpr (by omega))]; rfl⟩)
          12 mh_fu (0, 1) (by show A.length - 0 ≤ 12; omega) ⟨Nat.zero_le _, Or.inl ⟨rfl, fun i hi => absurd hi (Nat.not_lt_zero i)⟩⟩ (mh_fuel _ (by omega))
        obtain ⟨r, w1, w2⟩ := key
        have w2 : f_X12_same_b97 mh_fu (bd 0) (nI A.length) 1 0 h6 = some (nI r, h6) := w2
        rw [w2]
        refine good _ ?_
        rcases w1 with ⟨q1, q2⟩ | ⟨q1, q2⟩
        · subst q1; exact Or.inl ⟨q2, rfl⟩
        · subst q1; exact Or.inr ⟨q2, rfl⟩
      · rw [if_neg (fun q => cl ((nI_eq (by omega) (by omega)).mp q))]
        unfold f_X12_same_b92
        rw [mh_nm_eq]
        obtain ⟨n, en⟩ : ∃ n, mh_fu = n + 1 := ⟨8589934591, rfl⟩
        rw [en, f_X12_same_b97]
        have fin := good 0 (Or.inr ⟨fun q => cl (by rw [q]), rfl⟩)
        by_cases c0 : A.length = 0
        · rw [if_pos (by rw [c0]; decide)]
          exact fin
        · rw [if_neg (fun q => absurd ((mh_ler (b := 0) 0 rfl (by omega) (by omega)).mp q) (by omega)), if_pos rfl]
          exact fin
    · rw [mh_b2_eq b3, if_pos rfl]
      exact bad (fun a b _ hb q => b1 b hb q.2)
  · rw [mh_b2_eq a3, if_pos rfl]
    exact bad (fun a b ha _ q => a1 a ha q.1)
end MhModelJ
