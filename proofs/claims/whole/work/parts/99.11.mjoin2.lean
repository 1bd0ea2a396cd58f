/-- two sorted lists merged so far -/
def mh_Jn (a b : List Nat) (i k : Nat) (U : List Nat) : Prop := i ≤ a.length ∧ k ≤ b.length ∧ U.length ≤ i + k ∧ U.Pairwise (· < ·) ∧ (∀ x, x ∈ U ↔ x ∈ a.take i ∨ x ∈ b.take k) ∧ ∀ x, x ∈ U → (i < a.length → x < a.getD i 0) ∧ (k < b.length → x < b.getD k 0)
def mh_jv (a : List Nat) (i : Nat) : Nat := if i < a.length then a.getD i 0 else 301
theorem mh_jv_le {a : List Nat} (h : mh_ms a) (i : Nat) : mh_jv a i ≤ 301 ∧ (mh_jv a i ≤ 300 → i < a.length ∧ mh_jv a i = a.getD i 0) := by
  unfold mh_jv
  by_cases c : i < a.length
  · rw [if_pos c]
    have := (h.1.get c).2
    exact ⟨by omega, fun _ => ⟨c, rfl⟩⟩
  · rw [if_neg c]
    exact ⟨Nat.le_refl _, fun q => absurd q (by omega)⟩
theorem mh_mem_take_s {a : List Nat} {i x : Nat} (hi : i < a.length) : x ∈ a.take (i + 1) ↔ x ∈ a.take i ∨ x = a.getD i 0 := by
  rw [mh_take_s hi, List.mem_append, List.mem_singleton]
theorem mh_Jn_s {a b U : List Nat} {i k : Nat} (ha : mh_ms a) (hb : mh_ms b) (h : mh_Jn a b i k U) (hc : i < a.length ∨ k < b.length) : mh_Jn a b (if mh_jv b k < mh_jv a i then i else i + 1) (if mh_jv a i < mh_jv b k then k else k + 1) (U ++ [if mh_jv b k < mh_jv a i then mh_jv b k else mh_jv a i]) := by
  obtain ⟨h1, h2, h3, h4, h5, h6⟩ := h
  obtain ⟨a1, a2⟩ := mh_jv_le ha i
  obtain ⟨b1, b2⟩ := mh_jv_le hb k
  have pw : ∀ m, (∀ x, x ∈ U → x < m) → (U ++ [m]).Pairwise (· < ·) := fun m hm => List.pairwise_append.mpr ⟨h4, List.pairwise_singleton _ _, fun x hx y hy => by rw [List.mem_singleton.mp hy]; exact hm x hx⟩
  have ln : ∀ m, (U ++ [m]).length = U.length + 1 := fun m => by rw [List.length_append]; rfl
  have mm : ∀ m x, x ∈ U ++ [m] ↔ x ∈ U ∨ x = m := fun m x => by rw [List.mem_append, List.mem_singleton]
  by_cases c1 : mh_jv b k < mh_jv a i
  · obtain ⟨k1, k2⟩ := b2 (by omega)
    rw [if_pos c1, if_pos c1, if_neg (by omega), k2]
    refine ⟨h1, k1, by rw [ln]; omega, pw _ (fun x hx => (h6 x hx).2 k1), fun x => ?_, fun x hx => ⟨fun hi => ?_, fun hk => ?_⟩⟩
    · rw [mm, h5, mh_mem_take_s k1]
      exact ⟨fun q => q.elim (fun q => q.elim Or.inl (fun q => Or.inr (Or.inl q))) (fun q => Or.inr (Or.inr q)), fun q => q.elim (fun q => Or.inl (Or.inl q)) (fun q => q.elim (fun q => Or.inl (Or.inr q)) Or.inr)⟩
    · rcases (mm _ x).mp hx with q | q
      · exact (h6 x q).1 hi
      · have : mh_jv a i = a.getD i 0 := if_pos hi
        omega
    · have := mh_pw_ne hb.2 (show k < k + 1 by omega) hk
      rcases (mm _ x).mp hx with q | q
      · have := (h6 x q).2 k1; omega
      · omega
  · by_cases c2 : mh_jv a i < mh_jv b k
    · obtain ⟨k1, k2⟩ := a2 (by omega)
      rw [if_neg c1, if_neg c1, if_pos c2, k2]
      refine ⟨k1, h2, by rw [ln]; omega, pw _ (fun x hx => (h6 x hx).1 k1), fun x => ?_, fun x hx => ⟨fun hi => ?_, fun hk => ?_⟩⟩
      · rw [mm, h5, mh_mem_take_s k1]
        exact ⟨fun q => q.elim (fun q => q.elim (fun q => Or.inl (Or.inl q)) Or.inr) (fun q => Or.inl (Or.inr q)), fun q => q.elim (fun q => q.elim (fun q => Or.inl (Or.inl q)) Or.inr) (fun q => Or.inl (Or.inr q))⟩
      · have := mh_pw_ne ha.2 (show i < i + 1 by omega) hi
        rcases (mm _ x).mp hx with q | q
        · have := (h6 x q).1 k1; omega
        · omega
      · rcases (mm _ x).mp hx with q | q
        · exact (h6 x q).2 hk
        · have : mh_jv b k = b.getD k 0 := if_pos hk
          omega
    · have e : mh_jv a i = mh_jv b k := by omega
      have lt : mh_jv a i ≤ 300 := by
        rcases hc with q | q
        · have : mh_jv a i = a.getD i 0 := if_pos q
          have := (ha.1.get q).2
          omega
        · have : mh_jv b k = b.getD k 0 := if_pos q
          have := (hb.1.get q).2
          omega
      obtain ⟨k1, k2⟩ := a2 lt
      obtain ⟨k3, k4⟩ := b2 (by omega)
      rw [if_neg c1, if_neg c1, if_neg c2, k2]
      refine ⟨k1, k3, by rw [ln]; omega, pw _ (fun x hx => (h6 x hx).1 k1), fun x => ?_, fun x hx => ⟨fun hi => ?_, fun hk => ?_⟩⟩
      · rw [mm, h5, mh_mem_take_s k1, mh_mem_take_s k3, ← k4, ← e, k2]
        exact ⟨fun q => q.elim (fun q => q.elim (fun q => Or.inl (Or.inl q)) (fun q => Or.inr (Or.inl q))) (fun q => Or.inl (Or.inr q)), fun q => q.elim (fun q => q.elim (fun q => Or.inl (Or.inl q)) Or.inr) (fun q => q.elim (fun q => Or.inl (Or.inr q)) Or.inr)⟩
      · have := mh_pw_ne ha.2 (show i < i + 1 by omega) hi
        rcases (mm _ x).mp hx with q | q
        · have := (h6 x q).1 k1; omega
        · omega
      · have := mh_pw_ne hb.2 (show k < k + 1 by omega) hk
        rcases (mm _ x).mp hx with q | q
        · have := (h6 x q).2 k3; omega
        · omega
theorem mh_snoc_get {U : List Nat} {m i : Nat} (hi : i < U.length + 1) : (U ++ [m]).getD i 0 = if i = U.length then m else U.getD i 0 := by
  by_cases e : i = U.length
  · rw [if_pos e, e, List.getD_eq_getElem?_getD, List.getElem?_append_right (Nat.le_refl _), Nat.sub_self]
    rfl
  · rw [if_neg e, List.getD_eq_getElem?_getD, List.getD_eq_getElem?_getD, List.getElem?_append_left (by omega)]
section MhModelJ2
variable {h : mh_H} {bd : Nat → Nat} {σ : mh_Sg} {F : Nat → Int32}
/-- a mint becomes what stands in some -/
theorem mh_r_becomes (hR : mh_RI h bd σ F) {L : List Nat} (hS : mh_Sm h bd F L) (hL : mh_ms L) {p : Nat} (hp : p < 8) : ∃ h' F', f_X12_becomes_e (bd 0) (nI p) h = some (nI L.length, h') ∧ mh_RI h' bd (mh_setm (mh_bg σ) (mh_nx σ * 8 + p) L) F' ∧ (∀ j, j ≠ 3 → j ≠ 4 → j ≠ 5 → F' j = F j) ∧ mh_frR bd h h' := by
  obtain ⟨s14, f, hf, hfv⟩ := hS
  obtain ⟨g, hg, hw⟩ := hR.2 1 (by omega)
  have hl := hL.1.1
  have hI := hR.1
  have ho := hR.ob
  obtain ⟨H1, e1⟩ : ∃ H1, H1 = mh_up h (bd 1) (.inl (0, 304, .inl (upd g (13 * p) (nI L.length)))) := ⟨_, rfl⟩
  have s1 : mh_sI h (bd 1) (nI (13 * p)) (nI L.length) = some H1 := by rw [e1]; exact mh_sI_eq hg (by omega) (by omega)
  have key := mh_wh (fun m (q : Nat × mh_H) => f_X12_becomes_b15 m (bd 0) (nI p) (nI q.1) q.2) (fun (r : mh_H) => f_X12_becomes_b48 (bd 0) r) (fun q => q.1 ≤ L.length ∧ mh_fr [bd 1] h q.2 ∧ ∃ g', q.2 (bd 1) = some (.inl (0, 304, .inl g')) ∧ g' (13 * p) = nI L.length ∧ (∀ i, i < q.1 → g' (13 * p + 1 + i) = nI (L.getD i 0)) ∧ ∀ j, j < 304 → (j < 13 * p ∨ 13 * p + 13 ≤ j) → g' j = g j) (fun q => L.length - q.1) (fun r => mh_fr [bd 1] h r ∧ ∃ g', r (bd 1) = some (.inl (0, 304, .inl g')) ∧ g' (13 * p) = nI L.length ∧ (∀ i, i < L.length → g' (13 * p + 1 + i) = nI (L.getD i 0)) ∧ ∀ j, j < 304 → (j < 13 * p ∨ 13 * p + 13 ≤ j) → g' j = g j)
    (fun m q hq => by
      obtain ⟨k, hh⟩ := q
      obtain ⟨q1, q2, g', q3, q4, q5, q6⟩ := hq
      have q1 : k ≤ L.length := q1
      have q2 : mh_fr [bd 1] h hh := q2
      have q3 : hh (bd 1) = some (.inl (0, 304, .inl g')) := q3
      have q5 : ∀ i, i < k → g' (13 * p + 1 + i) = nI (L.getD i 0) := q5
      show (∃ s', _ ∧ _ ∧ f_X12_becomes_b15 (m + 1) (bd 0) (nI p) (nI k) hh = _) ∨ ∃ r, _ ∧ f_X12_becomes_b15 (m + 1) (bd 0) (nI p) (nI k) hh = _
      have ho' := (q2 (bd 0) (by simp [hI.ne (show 0 < 99 by omega) (show 1 < 99 by omega) (by omega)])).trans ho
      have hf' := (q2 (bd 56) (by simp [hI.ne (show 56 < 99 by omega) (show 1 < 99 by omega) (by omega)])).trans hf
      rw [f_X12_becomes_b15, mh_gI_eq (k := 14) ho' rfl, Option.bind_some, s14]
      by_cases c : k < L.length
      · left
        have e2 : nI (13 * p) + (1 : Int32) + nI k = nI (13 * p + 1 + k) := by rw [nI_1, nI_add]
        refine ⟨(k + 1, mh_up hh (bd 1) (.inl (0, 304, .inl (upd g' (13 * p + 1 + k) (nI (L.getD k 0)))))), ⟨c, q2.trans (mh_fr.up List.mem_cons_self), _, mh_up_eq _ _ _, by rw [pk_un (by omega)]; exact q4, fun i hi => ?_, fun j hj hn => by rw [pk_un (by omega)]; exact q6 j hj hn⟩, by show L.length - (k + 1) < L.length - k; omega, ?_⟩
        · have hi : i < k + 1 := hi
          by_cases e : i = k
          · rw [e, pk_us]
          · rw [pk_un (by omega)]; exact q5 i (by omega)
        · rw [if_neg (fun q => absurd ((nI_leI (by omega) (by omega)).mp q) (by omega)), mh_gR_eq (k := 1) ho' rfl, Option.bind_some, mh_b2_eq mh_r_mintAt, mh_gR_eq (k := 13) ho' rfl, Option.bind_some, mh_aI_eq hf' (show k < 24 by omega) (by omega), Option.bind_some, hfv k c, e2, mh_sI_eq q3 (show 13 * p + 1 + k < 304 by omega) (by omega), Option.bind_some, mh_nm_eq, mh_inc]
      · right
        have e : k = L.length := by omega
        subst e
        exact ⟨hh, ⟨q2, g', q3, q4, q5, q6⟩, by rw [if_pos ((nI_leI (by omega) (by omega)).mpr (by omega))]⟩)
    12 mh_fu (0, H1) (by show L.length - 0 ≤ 12; omega) ⟨Nat.zero_le _, by rw [e1]; exact mh_fr.up List.mem_cons_self, _, by show H1 (bd 1) = _; rw [e1]; exact mh_up_eq _ _ _, pk_us, fun i hi => absurd hi (Nat.not_lt_zero i), fun j hj hn => by rw [pk_un (by omega)]⟩ (mh_fuel _ (by omega))
  obtain ⟨h2, ⟨z1, g', z2, z3, z4, z5⟩, z6⟩ := key
  have z6 : f_X12_becomes_b15 mh_fu (bd 0) (nI p) 0 H1 = f_X12_becomes_b48 (bd 0) h2 := z6
  obtain ⟨h3, F3, y1, y2, y3, y4⟩ := mh_r_mint hR hp (M := L) z2 z1 hL z3 z4 (fun g0 hg0 j hj hn => by
    rw [hg] at hg0
    cases hg0
    exact z5 j hj hn)
  have o2 : h2 (bd 0) = some (.inr (12, mh_rf bd F)) := (z1 _ (by simp [hI.ne (show 0 < 99 by omega) (show 1 < 99 by omega) (by omega)])).trans ho
  refine ⟨h3, F3, ?_, y2, y3, y4⟩
  unfold f_X12_becomes_e
  rw [mh_gR_eq (k := 1) ho rfl, Option.bind_some, mh_b2_eq mh_r_mintAt, mh_gI_eq (k := 14) ho rfl, Option.bind_some, s14, s1, Option.bind_some, mh_nm_eq, z6]
  unfold f_X12_becomes_b48
  rw [mh_cal_eq o2, y1, Option.bind_some, mh_gI_eq (k := 14) y2.ob rfl, Option.bind_some, y3 14 (by omega) (by omega) (by omega), s14]
theorem mh_r_merge (hR : mh_RI h bd σ F) {a b : Nat} {x3 : Int32} (ha : a < 8) (hb : b < 8) (h0 : F 14 = 0) : ∃ U h' F', f_X12_join_b65 mh_fu (bd 0) (nI a) (nI b) x3 1 1 (nI (mh_mi σ a).length) (nI (mh_mi σ b).length) h = f_X12_join_b182 (bd 0) x3 h' ∧ mh_RI h' bd σ F' ∧ (∀ j, j ≠ 14 → F' j = F j) ∧ mh_Sm h' bd F' U ∧ mh_Jn (mh_mi σ a) (mh_mi σ b) (mh_mi σ a).length (mh_mi σ b).length U ∧ mh_frR bd h h' := by
  obtain ⟨g, hg, hw⟩ := hR.2 1 (by omega)
  obtain ⟨f0, hf0⟩ := hR.2 6 (by omega)
  obtain ⟨wa1, _, _, wa4, _⟩ := hw a ha
  obtain ⟨wb1, _, _, wb4, _⟩ := hw b hb
  have hI := hR.1
  have ho := hR.ob
  obtain ⟨A, eA⟩ : ∃ A, A = mh_mi σ a := ⟨_, rfl⟩
  obtain ⟨B, eB⟩ : ∃ B, B = mh_mi σ b := ⟨_, rfl⟩
  rw [← eA] at wa1 wa4 ⊢
  rw [← eB] at wb1 wb4 ⊢
  have la := wa1.1.1
  have lb := wb1.1.1
  have key := mh_wh (fun m (q : (Nat × Nat) × mh_H) => f_X12_join_b65 m (bd 0) (nI a) (nI b) x3 (nI (q.1.1 + 1)) (nI (q.1.2 + 1)) (nI A.length) (nI B.length) q.2) (fun (r : mh_H) => f_X12_join_b182 (bd 0) x3 r) (fun q => ∃ U F' f, mh_Jn A B q.1.1 q.1.2 U ∧ q.2 (bd 0) = some (.inr (12, mh_rf bd F')) ∧ F' 14 = nI U.length ∧ (∀ j, j ≠ 14 → F' j = F j) ∧ q.2 (bd 56) = some (.inl (0, 24, .inl f)) ∧ (∀ i, i < U.length → f i = nI (U.getD i 0)) ∧ mh_fr [bd 0, bd 56] h q.2) (fun q => (A.length + B.length) - (q.1.1 + q.1.2)) (fun r => ∃ U F' f, mh_Jn A B A.length B.length U ∧ r (bd 0) = some (.inr (12, mh_rf bd F')) ∧ F' 14 = nI U.length ∧ (∀ j, j ≠ 14 → F' j = F j) ∧ r (bd 56) = some (.inl (0, 24, .inl f)) ∧ (∀ i, i < U.length → f i = nI (U.getD i 0)) ∧ mh_fr [bd 0, bd 56] h r)
    (fun m q hq => by
      obtain ⟨⟨i, k⟩, hh⟩ := q
      obtain ⟨U, F', f, q1, q2, q3, q4, q5, q6, q7⟩ := hq
      have q1 : mh_Jn A B i k U := q1
      have q2 : hh (bd 0) = some (.inr (12, mh_rf bd F')) := q2
      have q5 : hh (bd 56) = some (.inl (0, 24, .inl f)) := q5
      have q7 : mh_fr [bd 0, bd 56] h hh := q7
      show (∃ s', _ ∧ _ ∧ f_X12_join_b65 (m + 1) (bd 0) (nI a) (nI b) x3 (nI (i + 1)) (nI (k + 1)) (nI A.length) (nI B.length) hh = _) ∨ ∃ r, _ ∧ f_X12_join_b65 (m + 1) (bd 0) (nI a) (nI b) x3 (nI (i + 1)) (nI (k + 1)) (nI A.length) (nI B.length) hh = _
      obtain ⟨n1, n2, n3, _⟩ := id q1
      have hg' := (q7 (bd 1) (by simp [hI.ne (show 1 < 99 by omega) (show 0 < 99 by omega) (by omega), hI.ne (show 1 < 99 by omega) (show 56 < 99 by omega) (by omega)])).trans hg
      have step : (i < A.length ∨ k < B.length) → ∃ s' : (Nat × Nat) × mh_H, (∃ U F' f, mh_Jn A B s'.1.1 s'.1.2 U ∧ s'.2 (bd 0) = some (.inr (12, mh_rf bd F')) ∧ F' 14 = nI U.length ∧ (∀ j, j ≠ 14 → F' j = F j) ∧ s'.2 (bd 56) = some (.inl (0, 24, .inl f)) ∧ (∀ i, i < U.length → f i = nI (U.getD i 0)) ∧ mh_fr [bd 0, bd 56] h s'.2) ∧ (A.length + B.length) - (s'.1.1 + s'.1.2) < (A.length + B.length) - (i + k) ∧ f_X12_join_b79 (f_X12_join_b65 m) (bd 0) (nI a) (nI b) x3 (nI (i + 1)) (nI (k + 1)) (nI A.length) (nI B.length) hh = f_X12_join_b65 m (bd 0) (nI a) (nI b) x3 (nI (s'.1.1 + 1)) (nI (s'.1.2 + 1)) (nI A.length) (nI B.length) s'.2 := fun hc => by
        obtain ⟨a1, a2⟩ := mh_jv_le wa1 i
        obtain ⟨b1, b2⟩ := mh_jv_le wb1 k
        have ul : U.length < 24 := by omega
        -- the two values
        have e79 : f_X12_join_b79 (f_X12_join_b65 m) (bd 0) (nI a) (nI b) x3 (nI (i + 1)) (nI (k + 1)) (nI A.length) (nI B.length) hh = f_X12_join_b104 (f_X12_join_b65 m) (bd 0) (nI a) (nI b) x3 (nI (i + 1)) (nI (k + 1)) (nI A.length) (nI B.length) (nI (mh_jv A i)) hh := by
          unfold f_X12_join_b79 mh_jv
          by_cases c : i < A.length
          · have e1 : nI (13 * a) + nI (i + 1) = nI (13 * a + 1 + i) := by rw [nI_add]; congr 1; omega
            rw [if_neg (fun q => absurd ((nI_ltI (by omega) (by omega)).mp q) (by omega)), mh_gR_eq (k := 1) q2 rfl, Option.bind_some, mh_b2_eq mh_r_mintAt, e1, mh_aI_eq hg' (show 13 * a + 1 + i < 304 by omega) (by omega), Option.bind_some, wa4 i c, if_pos c]
          · rw [if_pos ((nI_ltI (by omega) (by omega)).mpr (by omega)), if_neg c]
            rfl
        have e104 : f_X12_join_b104 (f_X12_join_b65 m) (bd 0) (nI a) (nI b) x3 (nI (i + 1)) (nI (k + 1)) (nI A.length) (nI B.length) (nI (mh_jv A i)) hh = f_X12_join_b131 (f_X12_join_b65 m) (bd 0) (nI a) (nI b) x3 (nI (i + 1)) (nI (k + 1)) (nI A.length) (nI B.length) (nI (mh_jv A i)) (nI (mh_jv B k)) hh := by
          unfold f_X12_join_b104
          by_cases c : k < B.length
          · have e1 : nI (13 * b) + nI (k + 1) = nI (13 * b + 1 + k) := by rw [nI_add]; congr 1; omega
            have ev : mh_jv B k = B.getD k 0 := if_pos c
            rw [if_neg (fun q => absurd ((nI_ltI (by omega) (by omega)).mp q) (by omega)), mh_gR_eq (k := 1) q2 rfl, Option.bind_some, mh_b2_eq mh_r_mintAt, e1, mh_aI_eq hg' (show 13 * b + 1 + k < 304 by omega) (by omega), Option.bind_some, wb4 k c, ev]
          · have ev : mh_jv B k = 301 := if_neg c
            rw [if_pos ((nI_ltI (by omega) (by omega)).mpr (by omega)), ev]
            rfl
        have J' := mh_Jn_s wa1 wb1 q1 hc
        obtain ⟨va, eva⟩ : ∃ va, va = mh_jv A i := ⟨_, rfl⟩
        obtain ⟨vb, evb⟩ : ∃ vb, vb = mh_jv B k := ⟨_, rfl⟩
        rw [← eva, ← evb] at J' e104
        rw [← eva] at e79 a1
        rw [← evb] at b1
        obtain ⟨mi, emi⟩ : ∃ mi, mi = if vb < va then vb else va := ⟨_, rfl⟩
        rw [← emi] at J'
        have e4 : (if nI vb < nI va then nI vb else nI va) = nI mi := by
          rw [emi]
          by_cases c : vb < va
          · rw [if_pos c, if_pos ((nI_ltI (by omega) (by omega)).mpr c)]
          · rw [if_neg c, if_neg (fun q => c ((nI_ltI (by omega) (by omega)).mp q))]
        obtain ⟨H2, e2⟩ : ∃ H2, H2 = mh_up hh (bd 56) (.inl (0, 24, .inl (upd f U.length (nI mi)))) := ⟨_, rfl⟩
        have s2 : mh_sI hh (bd 56) (nI U.length) (nI mi) = some H2 := by rw [e2]; exact mh_sI_eq q5 ul (by omega)
        have o2 : H2 (bd 0) = some (.inr (12, mh_rf bd F')) := by rw [e2, mh_up_ne (hI.ne (by omega) (by omega) (by omega))]; exact q2
        have p3 := mh_r_put14 o2 (nI (U.length + 1))
        obtain ⟨H3, e3⟩ : ∃ H3, H3 = mh_up H2 (bd 0) (.inr (12, mh_rf bd (upd F' 14 (nI (U.length + 1))))) := ⟨_, rfl⟩
        rw [← e3] at p3
        have inv : ∀ i' k', mh_Jn A B i' k' (U ++ [mi]) → ∃ U F' f, mh_Jn A B i' k' U ∧ H3 (bd 0) = some (.inr (12, mh_rf bd F')) ∧ F' 14 = nI U.length ∧ (∀ j, j ≠ 14 → F' j = F j) ∧ H3 (bd 56) = some (.inl (0, 24, .inl f)) ∧ (∀ i, i < U.length → f i = nI (U.getD i 0)) ∧ mh_fr [bd 0, bd 56] h H3 := fun i' k' hJ => by
          refine ⟨U ++ [mi], upd F' 14 (nI (U.length + 1)), upd f U.length (nI mi), hJ, by rw [e3]; exact mh_up_eq _ _ _, by rw [pk_us, List.length_append]; rfl, fun j e => by rw [pk_un e]; exact q4 j e, by rw [e3, mh_up_ne (hI.ne (by omega) (by omega) (by omega)), e2]; exact mh_up_eq _ _ _, fun t ht => ?_, ?_⟩
          · rw [List.length_append] at ht
            have ht : t < U.length + 1 := ht
            rw [mh_snoc_get ht]
            by_cases e : t = U.length
            · rw [if_pos e, e, pk_us]
            · rw [if_neg e, pk_un e]; exact q6 t (by omega)
          · rw [e3, e2]
            exact q7.trans ((mh_fr.up (by simp)).trans (mh_fr.up (by simp)))
        rw [e79, e104]
        unfold f_X12_join_b131
        rw [mh_gR_eq (k := 13) q2 rfl, Option.bind_some, mh_gI_eq (k := 14) q2 rfl, Option.bind_some, q3, e4, s2, Option.bind_some, mh_gI_eq (k := 14) o2 rfl, Option.bind_some, q3, nI_1, p3, Option.bind_some]
        unfold f_X12_join_b169 f_X12_join_b179
        by_cases c1 : vb < va
        · rw [if_pos c1, if_neg (by omega)] at J'
          refine ⟨((i, k + 1), H3), inv i (k + 1) J', ?_, ?_⟩
          · have := J'.2.1
            show (A.length + B.length) - (i + (k + 1)) < (A.length + B.length) - (i + k)
            omega
          · rw [if_pos ((nI_ltI (by omega) (by omega)).mpr c1), if_neg (fun q => absurd ((nI_ltI (by omega) (by omega)).mp q) (by omega)), mh_nm_eq, mh_inc]
        · by_cases c2 : va < vb
          · rw [if_neg c1, if_pos c2] at J'
            refine ⟨((i + 1, k), H3), inv (i + 1) k J', ?_, ?_⟩
            · have := J'.1
              show (A.length + B.length) - (i + 1 + k) < (A.length + B.length) - (i + k)
              omega
            · rw [if_neg (fun q => c1 ((nI_ltI (by omega) (by omega)).mp q)), mh_nm_eq, mh_inc, if_pos ((nI_ltI (by omega) (by omega)).mpr c2)]
          · rw [if_neg c1, if_neg c2] at J'
            refine ⟨((i + 1, k + 1), H3), inv (i + 1) (k + 1) J', ?_, ?_⟩
            · have := J'.1
              have := J'.2.1
              show (A.length + B.length) - (i + 1 + (k + 1)) < (A.length + B.length) - (i + k)
              omega
            · rw [if_neg (fun q => c1 ((nI_ltI (by omega) (by omega)).mp q)), mh_nm_eq, mh_inc, if_neg (fun q => c2 ((nI_ltI (by omega) (by omega)).mp q)), mh_nm_eq, mh_inc]
      rw [f_X12_join_b65]
      by_cases c1 : i < A.length
      · left
        obtain ⟨s', t1, t2, t3⟩ := step (Or.inl c1)
        exact ⟨s', t1, t2, by rw [if_pos ((nI_leI (by omega) (by omega)).mpr (by omega))]; exact t3⟩
      · rw [if_neg (fun q => absurd ((nI_leI (by omega) (by omega)).mp q) (by omega))]
        by_cases c2 : k < B.length
        · left
          obtain ⟨s', t1, t2, t3⟩ := step (Or.inr c2)
          exact ⟨s', t1, t2, by rw [if_neg (fun q => absurd ((nI_ltI (by omega) (by omega)).mp q) (by omega))]; exact t3⟩
        · right
          have e1 : i = A.length := by omega
          have e2 : k = B.length := by omega
          subst e1
          subst e2
          exact ⟨hh, ⟨U, F', f, q1, q2, q3, q4, q5, q6, q7⟩, by rw [if_pos ((nI_ltI (by omega) (by omega)).mpr (by omega))]⟩)
    24 mh_fu ((0, 0), h) (by show (A.length + B.length) - (0 + 0) ≤ 24; omega) ⟨[], F, f0, ⟨Nat.zero_le _, Nat.zero_le _, Nat.le_refl _, List.Pairwise.nil, fun x => ⟨fun q => absurd q List.not_mem_nil, fun q => q.elim (fun q => absurd q List.not_mem_nil) (fun q => absurd q List.not_mem_nil)⟩, fun x hx => absurd hx List.not_mem_nil⟩, ho, h0, fun _ _ => rfl, hf0, fun i hi => absurd hi (Nat.not_lt_zero i), mh_fr.rfl⟩ (mh_fuel _ (by omega))
  obtain ⟨h', ⟨U, F', f, z1, z2, z3, z4, z5, z6, z7⟩, z8⟩ := key
  obtain ⟨R2, f2⟩ := hR.fl (h' := h') (F' := F') (fun j _ e _ _ _ _ => z4 j e) z2 [6] (fun i hi => by rw [List.mem_singleton.mp hi]; omega) (fun b b1 b2 => z7 b (by simp [b1, b2 6 (by decide) 56 (by decide) (by decide)])) (fun i hi => by rw [List.mem_singleton.mp hi]; exact ⟨f, z5⟩)
  exact ⟨U, h', F', z8, R2, z4, ⟨z3, f, z5, z6⟩, z1, f2⟩
theorem mh_M_join (hR : mh_RI h bd σ F) (x1 x2 x3 : Int32) : ∃ r v h' σ' F', f_X12_join_e (bd 0) x1 x2 x3 h = some (v, h') ∧ mh_Sjoin σ x1 x2 x3 r σ' ∧ mh_an r v F' ∧ mh_RI h' bd σ' F' ∧ mh_frR bd h h' := by
  obtain ⟨h1, F1, p1, R1, z1, f1⟩ := mh_r_code hR
  unfold f_X12_join_e
  rw [p1, Option.bind_some]
  have bad : (∀ a b p, a < 8 → b < 8 → p < 8 → ¬ (x1 = nI a ∧ x2 = nI b ∧ x3 = nI p)) → ∃ r v h' σ' F', f_X12_join_b26 (bd 0) h1 = some (v, h') ∧ mh_Sjoin σ x1 x2 x3 r σ' ∧ mh_an r v F' ∧ mh_RI h' bd σ' F' ∧ mh_frR bd h h' := fun hb => by
    obtain ⟨h2, F2, y1, R2, z2, f2⟩ := mh_r_fl R1 1 (fun v h11 => some (v, h11))
    exact ⟨.inl 1, 0, h2, σ, F2, y1, Or.inr ⟨hb, rfl, rfl⟩, Or.inr ⟨1, rfl, z2⟩, R2, f1.trans f2⟩
  rcases mh_r_isMint (h := h1) x1 with ⟨a, a1, a2, a3⟩ | ⟨a1, a3⟩
  · subst a2
    rw [mh_b2_eq a3, if_neg (by decide)]
    rcases mh_r_isMint (h := h1) x2 with ⟨b, b1, b2, b3⟩ | ⟨b1, b3⟩
    · subst b2
      rw [mh_b2_eq b3, if_neg (by decide)]
      rcases mh_r_isMint (h := h1) x3 with ⟨p, c1, c2, c3⟩ | ⟨c1, c3⟩
      · subst c2
        obtain ⟨g, hg, hw⟩ := R1.2 1 (by omega)
        obtain ⟨p2, R2, f2⟩ := R1.fld (k := 14) 0 (Or.inr (Or.inl rfl))
        obtain ⟨h2, e2⟩ : ∃ h2, h2 = mh_up h1 (bd 0) (.inr (12, mh_rf bd (upd F1 14 0))) := ⟨_, rfl⟩
        rw [← e2] at p2 R2 f2
        obtain ⟨U, h3, F3, y1, R3, y3, y4, y5, f3⟩ := mh_r_merge (x3 := nI p) R2 a1 b1 pk_us
        have ma := mh_r_ms R1 a1
        have mb := mh_r_ms R1 b1
        have la := ma.1.1
        have lb := mb.1.1
        obtain ⟨j1, j2, j3, j4, j5, j6⟩ := y5
        have jm : ∀ x, x ∈ U ↔ x ∈ mh_mi σ a ∨ x ∈ mh_mi σ b := fun x => by rw [j5, List.take_length, List.take_length]
        obtain ⟨h4, F4, u1, R4, u3, S4, f4, _⟩ := mh_r_keep R3 y4 (by omega) (fun x hx => ((jm x).mp hx).elim (ma.1.2 x) (mb.1.2 x)) j4
        have eK : mh_pk (fun j => j ∈ U) 300 = mh_pk (fun j => j ∈ mh_mi σ a ∨ j ∈ mh_mi σ b) 300 := mh_pk_congr 300 (fun x _ _ => jm x)
        rw [eK] at S4
        have zz : F4 0 = 0 := (u3 0 (by omega)).trans ((y3 0 (by omega)).trans z1)
        have ff := (f1.trans f2).trans (f3.trans f4)
        have good : ∀ r σ', mh_Sbec σ p ((mh_pk (fun j => j ∈ mh_mi σ a ∨ j ∈ mh_mi σ b) 300).length ≤ 12) (mh_pk (fun j => j ∈ mh_mi σ a ∨ j ∈ mh_mi σ b) 300) r σ' → mh_Sjoin σ (nI a) (nI b) (nI p) r σ' := fun r σ' hr => Or.inl ⟨a, b, p, a1, b1, c1, rfl, rfl, rfl, hr⟩
        obtain ⟨K, eKK⟩ : ∃ K, K = mh_pk (fun j => j ∈ mh_mi σ a ∨ j ∈ mh_mi σ b) 300 := ⟨_, rfl⟩
        have kms : K.length ≤ 12 → mh_ms K := fun q => by rw [eKK] at q ⊢; exact mh_pk_ms q
        rw [← eKK] at S4 good
        have kl : K.length < 2 ^ 31 := by
          have e := mh_pk_mem_len U j4 (fun _ q => q) 300
          rw [eK, ← eKK] at e
          omega
        rw [mh_b2_eq c3, if_neg (by decide), mh_nm_eq, mh_nm_eq, mh_gR_eq (k := 1) R1.ob rfl, Option.bind_some, mh_b2_eq mh_r_mintAt, mh_aI_eq hg (show 13 * a < 304 by omega) (by omega), Option.bind_some, mh_gR_eq (k := 1) R1.ob rfl, Option.bind_some, mh_b2_eq mh_r_mintAt, mh_aI_eq hg (show 13 * b < 304 by omega) (by omega), Option.bind_some, (hw a a1).2.2.1, (hw b b1).2.2.1, p2, Option.bind_some, y1]
        unfold f_X12_join_b182
        rw [mh_cal_eq R3.ob, u1, Option.bind_some, mh_gI_eq (k := 14) R4.ob rfl, Option.bind_some, S4.1]
        by_cases c : K.length ≤ 12
        · obtain ⟨h5, F5, v1, R5, v3, f5⟩ := mh_r_becomes R4 S4 (kms c) c1
          rw [if_pos ((mh_ler (b := 12) 12 rfl (by omega) (by omega)).mpr c), mh_cal_eq R4.ob, mh_b2_eq v1]
          exact ⟨.inr (nI K.length), _, h5, _, F5, rfl, good _ _ (Or.inl ⟨c, rfl, rfl⟩), Or.inl ⟨rfl, (v3 0 (by omega) (by omega) (by omega)).trans zz⟩, R5, ff.trans f5⟩
        · rw [if_neg (fun q => c ((mh_ler (b := 12) 12 rfl (by omega) (by omega)).mp q))]
          exact ⟨.inr (-1), _, h4, σ, F4, rfl, good _ _ (Or.inr ⟨c, rfl, rfl⟩), Or.inl ⟨rfl, zz⟩, R4, ff⟩
      · rw [mh_b2_eq c3, if_pos rfl]
        exact bad (fun a b p _ _ hp q => c1 p hp q.2.2)
    · rw [mh_b2_eq b3, if_pos rfl]
      exact bad (fun a b p _ hb _ q => b1 b hb q.2.1)
  · rw [mh_b2_eq a3, if_pos rfl]
    exact bad (fun a b p ha _ _ q => a1 a ha q.1)
end MhModelJ2
