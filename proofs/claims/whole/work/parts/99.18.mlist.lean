theorem mh_sumr_mono (g : Nat → Nat) {a : Nat} : ∀ d, mh_sumr g a ≤ mh_sumr g (a + d) := by
  intro d
  induction d with
  | zero => exact Nat.le_refl _
  | succ d ih => exact Nat.le_trans ih (Nat.le_add_right _ _)
theorem mh_sumr_mo (g : Nat → Nat) {a b : Nat} (h : a ≤ b) : mh_sumr g a ≤ mh_sumr g b := by
  have := mh_sumr_mono g (a := a) (b - a)
  rwa [show a + (b - a) = b by omega] at this
/-- the ways, if not too many, are the sum over what is taken of the last coin -/
theorem mh_wy_eq {cs : List Nat} {j : Nat} (hc : 1 ≤ cs.getD j 0) : ∀ (left : Nat), mh_wy cs (j + 1) left < mh_CAP → mh_wy cs (j + 1) left = mh_sumr (fun i => mh_wy cs j (left - i * cs.getD j 0)) (left / cs.getD j 0 + 1) := by
  intro left
  induction left using Nat.strongRecOn with
  | ind left ih =>
    intro hlt
    have st := mh_wy_s (s := left) hc
    rw [mh_sumr_hd]
    show _ = mh_wy cs j (left - 0 * cs.getD j 0) + _
    rw [Nat.zero_mul, Nat.sub_zero]
    by_cases c : cs.getD j 0 ≤ left
    · rw [if_pos c] at st
      have e : mh_wy cs (j + 1) left = mh_wy cs j left + mh_wy cs (j + 1) (left - cs.getD j 0) := by omega
      have h1 := ih (left - cs.getD j 0) (by omega) (by omega)
      have h2 : (left - cs.getD j 0) / cs.getD j 0 + 1 = left / cs.getD j 0 := by rw [Nat.div_eq_sub_div (by omega) c]
      rw [h2] at h1
      have h3 : (fun i => mh_wy cs j (left - (i + 1) * cs.getD j 0)) = (fun i => mh_wy cs j (left - cs.getD j 0 - i * cs.getD j 0)) := by
        funext i
        congr 1
        rw [Nat.succ_mul]
        omega
      rw [e, h1]
      show _ = mh_wy cs j left + mh_sumr (fun i => mh_wy cs j (left - (i + 1) * cs.getD j 0)) _
      rw [h3]
    · rw [if_neg c] at st
      have e0 : left / cs.getD j 0 = 0 := Nat.div_eq_of_lt (by omega)
      rw [e0]
      show _ = mh_wy cs j left + 0
      omega
theorem mh_ch_at {cs : List Nat} {j left k r : Nat} (hr : r < mh_wy cs j (left - k * cs.getD j 0)) : ∀ d, mh_ch cs j left (k + d) (mh_sumr (fun i => mh_wy cs j (left - i * cs.getD j 0)) (k + d + 1) - mh_sumr (fun i => mh_wy cs j (left - i * cs.getD j 0)) (k + 1) + r) = (k, r) := by
  intro d
  induction d with
  | zero =>
    rw [Nat.add_zero, Nat.sub_self, Nat.zero_add]
    cases k with
    | zero => rfl
    | succ k => rw [mh_ch, if_pos hr]
  | succ d ih =>
    have mo := mh_sumr_mo (fun i => mh_wy cs j (left - i * cs.getD j 0)) (show k + 1 ≤ k + d + 1 by omega)
    have e : mh_sumr (fun i => mh_wy cs j (left - i * cs.getD j 0)) (k + (d + 1) + 1) = mh_sumr (fun i => mh_wy cs j (left - i * cs.getD j 0)) (k + d + 1) + mh_wy cs j (left - (k + d + 1) * cs.getD j 0) := rfl
    rw [e]
    show mh_ch cs j left (k + d + 1) _ = _
    rw [mh_ch, if_neg (by omega)]
    have e2 : mh_sumr (fun i => mh_wy cs j (left - i * cs.getD j 0)) (k + d + 1) + mh_wy cs j (left - (k + d + 1) * cs.getD j 0) - mh_sumr (fun i => mh_wy cs j (left - i * cs.getD j 0)) (k + 1) + r - mh_wy cs j (left - (k + d + 1) * cs.getD j 0) = mh_sumr (fun i => mh_wy cs j (left - i * cs.getD j 0)) (k + d + 1) - mh_sumr (fun i => mh_wy cs j (left - i * cs.getD j 0)) (k + 1) + r := by omega
    rw [e2]
    exact ih
/-- while the payings are listed: M of them, V; cn is what is counted -/
def mh_Lt (h hh : mh_H) (bd : Nat → Nat) (F : Nat → Int32) (M : Nat) (V : Nat → List Nat) (cn : Nat → Nat → Prop) : Prop := mh_fr [bd 0, bd 59, bd 60] h hh ∧ (∃ F', hh (bd 0) = some (.inr (12, mh_rf bd F')) ∧ F' 22 = nI M ∧ ∀ j, j ≠ 22 → F' j = F j) ∧ (∃ fl, hh (bd 59) = some (.inl (0, 2400, .inl fl)) ∧ ∀ r i, r < M → i < 12 → fl (12 * r + i) = nI ((V r).getD i 0)) ∧ ∃ fc, hh (bd 60) = some (.inl (0, 12, .inl fc)) ∧ ∀ i x, i < 12 → cn i x → fc i = nI x
/-- below j nothing, from j on what rest says -/
def mh_cj (j : Nat) (rest : List Nat) (i x : Nat) : Prop := x = if i < j then 0 else rest.getD (i - j) 0
section MhModelLi
variable {h : mh_H} {bd : Nat → Nat} {σ : mh_Sg} {F : Nat → Int32}
theorem mh_Lt.congr {hh : mh_H} {M : Nat} {V V' : Nat → List Nat} {cn cn' : Nat → Nat → Prop} (hL : mh_Lt h hh bd F M V cn) (hV : ∀ r, r < M → V' r = V r) (hc : ∀ i x, i < 12 → cn' i x → cn i x) : mh_Lt h hh bd F M V' cn' := by
  obtain ⟨a1, a2, ⟨fl, a3, a4⟩, fc, a5, a6⟩ := hL
  exact ⟨a1, a2, ⟨fl, a3, fun r i hr hi => by rw [hV r hr]; exact a4 r i hr hi⟩, fc, a5, fun i x hi hx => a6 i x hi (hc i x hi hx)⟩
theorem mh_Lt.set {hh : mh_H} {M : Nat} {V : Nat → List Nat} {cn cn' : Nat → Nat → Prop} (hI : mh_Inj bd 99) (hL : mh_Lt h hh bd F M V cn) {j k : Nat} (hj : j < 12) (hc : ∀ i x, i < 12 → cn' i x → (i = j ∧ x = k) ∨ (i ≠ j ∧ cn i x)) : ∃ h', mh_sI hh (bd 60) (nI j) (nI k) = some h' ∧ mh_Lt h h' bd F M V cn' := by
  obtain ⟨a1, ⟨F', b1, b2, b3⟩, ⟨fl, a3, a4⟩, fc, a5, a6⟩ := hL
  refine ⟨mh_up hh (bd 60) (.inl (0, 12, .inl (upd fc j (nI k)))), mh_sI_eq a5 hj (by omega), a1.trans (mh_fr.up (by simp)), ⟨F', by rw [mh_up_ne (hI.ne (by omega) (by omega) (by omega))]; exact b1, b2, b3⟩, ⟨fl, by rw [mh_up_ne (hI.ne (by omega) (by omega) (by omega))]; exact a3, a4⟩, upd fc j (nI k), mh_up_eq _ _ _, fun i x hi hx => ?_⟩
  rcases hc i x hi hx with ⟨q1, q2⟩ | ⟨q1, q2⟩
  · rw [q1, pk_us, q2]
  · rw [pk_un q1]; exact a6 i x hi q2
/-- one paying more is listed -/
theorem mh_r_list1 (rc : Nat → Int32 → Int32 → Int32 → mh_H → Option mh_H) {hh : mh_H} {M : Nat} {V : Nat → List Nat} {rest : List Nat} (hI : mh_Inj bd 99) (hM : M < 200) (hL : mh_Lt h hh bd F M V (mh_cj 0 rest)) (hb : ∀ i, rest.getD i 0 < 2 ^ 31) : ∃ h', f_X12_list_b11 rc (f_X12_list_b56 rc) mh_fu (bd 0) 0 hh = some h' ∧ mh_Lt h h' bd F (M + 1) (fun r => if r < M then V r else rest) (mh_cj 0 rest) := by
  obtain ⟨a1, ⟨F', b1, b2, b3⟩, ⟨fl, a3, a4⟩, fc, a5, a6⟩ := hL
  have a6 : ∀ i, i < 12 → fc i = nI (rest.getD i 0) := fun i hi => a6 i _ hi (by unfold mh_cj; rw [if_neg (Nat.not_lt_zero i), Nat.sub_zero])
  have key := mh_wh (fun m (q : Nat × mh_H) => f_X12_list_b11 rc (f_X12_list_b56 rc) m (bd 0) (nI q.1) q.2) (fun (r : mh_H) => f_X12_list_b46 rc (f_X12_list_b56 rc) (bd 0) r) (fun q => q.1 ≤ 12 ∧ mh_fr [bd 59] hh q.2 ∧ ∃ fl', q.2 (bd 59) = some (.inl (0, 2400, .inl fl')) ∧ (∀ i, i < q.1 → fl' (12 * M + i) = nI (rest.getD i 0)) ∧ ∀ t, t < 12 * M → fl' t = fl t) (fun q => 12 - q.1) (fun r => mh_fr [bd 59] hh r ∧ ∃ fl', r (bd 59) = some (.inl (0, 2400, .inl fl')) ∧ (∀ i, i < 12 → fl' (12 * M + i) = nI (rest.getD i 0)) ∧ ∀ t, t < 12 * M → fl' t = fl t)
    (fun m q hq => by
      obtain ⟨k, h2⟩ := q
      obtain ⟨q1, q2, fl', q3, q4, q5⟩ := hq
      have q1 : k ≤ 12 := q1
      have q2 : mh_fr [bd 59] hh h2 := q2
      have q3 : h2 (bd 59) = some (.inl (0, 2400, .inl fl')) := q3
      have q4 : ∀ i, i < k → fl' (12 * M + i) = nI (rest.getD i 0) := q4
      show (∃ s', _ ∧ _ ∧ f_X12_list_b11 rc (f_X12_list_b56 rc) (m + 1) (bd 0) (nI k) h2 = _) ∨ ∃ r, _ ∧ f_X12_list_b11 rc (f_X12_list_b56 rc) (m + 1) (bd 0) (nI k) h2 = _
      have ho := (q2 (bd 0) (by simp [hI.ne (show 0 < 99 by omega) (show 59 < 99 by omega) (by omega)])).trans b1
      have hc := (q2 (bd 60) (by simp [hI.ne (show 60 < 99 by omega) (show 59 < 99 by omega) (by omega)])).trans a5
      rw [f_X12_list_b11]
      by_cases c : k < 12
      · left
        have e1 : (12 : Int32) * nI M + nI k = nI (12 * M + k) := by
          rw [show (12 : Int32) = nI 12 from rfl, mh_nI_mul, nI_add]
        refine ⟨(k + 1, mh_up h2 (bd 59) (.inl (0, 2400, .inl (upd fl' (12 * M + k) (nI (rest.getD k 0)))))), ⟨c, q2.trans (mh_fr.up List.mem_cons_self), _, mh_up_eq _ _ _, fun i hi => ?_, fun t ht => by rw [pk_un (by omega)]; exact q5 t ht⟩, by show 12 - (k + 1) < 12 - k; omega, ?_⟩
        · have hi : i < k + 1 := hi
          by_cases e : i = k
          · rw [e, pk_us]
          · rw [pk_un (by omega)]; exact q4 i (by omega)
        · rw [if_neg (fun q => absurd ((mh_lel (a := 12) 12 rfl (by omega) (by omega)).mp q) (by omega)), mh_gR_eq (k := 19) ho rfl, Option.bind_some, mh_gI_eq (k := 22) ho rfl, Option.bind_some, b2, mh_gR_eq (k := 20) ho rfl, Option.bind_some, mh_aI_eq hc c (by omega), Option.bind_some, a6 k c, e1, mh_sI_eq q3 (show 12 * M + k < 2400 by omega) (by omega), Option.bind_some, mh_nm_eq, mh_inc]
      · right
        have e : k = 12 := by omega
        subst e
        exact ⟨h2, ⟨q2, fl', q3, q4, q5⟩, by rw [if_pos ((mh_lel (a := 12) 12 rfl (by omega) (by omega)).mpr (by omega))]⟩)
    12 mh_fu (0, hh) (by show 12 - 0 ≤ 12; omega) ⟨Nat.zero_le _, mh_fr.rfl, fl, a3, fun i hi => absurd hi (Nat.not_lt_zero i), fun _ _ => rfl⟩ (mh_fuel _ (by omega))
  obtain ⟨h2, ⟨z1, fl', z2, z3, z4⟩, z5⟩ := key
  have z5 : f_X12_list_b11 rc (f_X12_list_b56 rc) mh_fu (bd 0) 0 hh = _ := z5
  have o2 := (z1 (bd 0) (by simp [hI.ne (show 0 < 99 by omega) (show 59 < 99 by omega) (by omega)])).trans b1
  have p3 : mh_pI h2 (bd 0) 12 22 (nI (M + 1)) = some (mh_up h2 (bd 0) (.inr (12, mh_rf bd (upd F' 22 (nI (M + 1)))))) := mh_pI_s _ o2 ⟨show 22 < 38 by omega, rfl⟩
  refine ⟨mh_up h2 (bd 0) (.inr (12, mh_rf bd (upd F' 22 (nI (M + 1))))), ?_, ?_, ⟨upd F' 22 (nI (M + 1)), mh_up_eq _ _ _, pk_us, fun j e => by rw [pk_un e]; exact b3 j e⟩, ⟨fl', by rw [mh_up_ne (hI.ne (by omega) (by omega) (by omega))]; exact z2, fun r i hr hi => ?_⟩, fc, ?_, fun i x hi hx => ?_⟩
  · rw [z5]
    unfold f_X12_list_b46
    rw [mh_gI_eq (k := 22) o2 rfl, Option.bind_some, b2, nI_1, p3]
    rfl
  · exact a1.trans ((z1.sub (fun x hx => by rw [List.mem_singleton.mp hx]; simp)).trans (mh_fr.up (by simp)))
  · show _ = nI ((if r < M then V r else rest).getD i 0)
    by_cases c : r < M
    · rw [if_pos c, z4 _ (by omega)]; exact a4 r i c hi
    · rw [if_neg c, show r = M by omega]; exact z3 i hi
  · rw [mh_up_ne (hI.ne (by omega) (by omega) (by omega)), z1 (bd 60) (by simp [hI.ne (show 60 < 99 by omega) (show 59 < 99 by omega) (by omega)])]
    exact a5
  · have hx : x = if i < 0 then 0 else rest.getD (i - 0) 0 := hx
    rw [if_neg (Nat.not_lt_zero i), Nat.sub_zero] at hx
    rw [hx]; exact a6 i hi
theorem mh_r_list {cs : List Nat} {p : Nat} {g : Nat → Int32} {G : Nat → Nat → Int64} (hI : mh_Inj bd 99) (hp : p < 8) (hg : h (bd 1) = some (.inl (0, 304, .inl g))) (hgv : ∀ i, i < cs.length → g (13 * p + 1 + i) = nI (cs.getD i 0)) (hO : mh_Oy h (bd 42) (fun j => bd (43 + j))) (hG : mh_Ry h (fun j => bd (43 + j)) G) (hv : ∀ j, j ≤ cs.length → ∀ s, s ≤ 3000 → G j s = lN (mh_wy cs j s)) (hm : mh_ms cs) : ∀ (j D left M : Nat) (hh : mh_H) (V : Nat → List Nat) (rest : List Nat), j < D → j ≤ cs.length → left ≤ 3000 → M + mh_wy cs j left ≤ 200 → (∀ i, rest.getD i 0 < 2 ^ 31) → mh_Lt h hh bd F M V (mh_cj j rest) → ∃ h', f_X12_list_d D (bd 0) (nI p) (nI j) (nI left) hh = some h' ∧ mh_Lt h h' bd F (M + mh_wy cs j left) (fun r => if r < M then V r else mh_ly cs j left (r - M) ++ rest) (mh_cj j rest) := by
  have hl := hm.1.1
  have hcap : mh_CAP = 4000000000000000001 := rfl
  intro j
  induction j with
  | zero =>
    intro D left M hh V rest h1 _ h3 h4 h5 hL
    obtain ⟨D, rfl⟩ : ∃ k, D = k + 1 := ⟨D - 1, by omega⟩
    show ∃ h', f_X12_list_e (f_X12_list_d D) (bd 0) (nI p) (nI 0) (nI left) hh = some h' ∧ _
    unfold f_X12_list_e
    rw [if_pos (show nI 0 = 0 from rfl)]
    rw [mh_wy_0] at h4 ⊢
    by_cases c : left = 0
    · rw [if_pos c] at h4 ⊢
      obtain ⟨h', w1, w2⟩ := mh_r_list1 (f_X12_list_d D) hI (by omega) hL h5
      rw [if_pos (by rw [c]; rfl), mh_nm_eq, w1]
      exact ⟨h', rfl, w2⟩
    · rw [if_neg c] at h4 ⊢
      rw [if_neg (fun q => c ((mh_eqr (b := 0) 0 rfl (by omega) (by omega)).mp q))]
      refine ⟨hh, rfl, hL.congr (fun r hr => ?_) (fun _ _ _ q => q)⟩
      exact if_pos hr
  | succ j ih =>
    intro D left M hh V rest h1 h2 h3 h4 h5 hL
    obtain ⟨D, rfl⟩ : ∃ k, D = k + 1 := ⟨D - 1, by omega⟩
    show ∃ h', f_X12_list_e (f_X12_list_d D) (bd 0) (nI p) (nI (j + 1)) (nI left) hh = some h' ∧ _
    have cb := hm.1.get (show j < cs.length by omega)
    have we := mh_wy_eq (cs := cs) (j := j) cb.1 left (by omega)
    have z0 : ¬ nI (cs.getD j 0) = 0 := fun q => absurd ((mh_eqr (b := 0) 0 rfl (by omega) (by omega)).mp q) (by omega)
    have e1 : nI (13 * p) + nI (j + 1) = nI (13 * p + 1 + j) := by rw [nI_add]; congr 1; omega
    have e2 : nI (j + 1) - (1 : Int32) = nI j := pk_sub (b := 1) (by omega)
    obtain ⟨c, ec⟩ : ∃ c, c = cs.getD j 0 := ⟨_, rfl⟩
    have dl := Nat.div_mul_le_self left c
    have d2 := Nat.div_le_self left c
    obtain ⟨K, eK⟩ : ∃ K, K = left / c := ⟨_, rfl⟩
    obtain ⟨S, eS⟩ : ∃ S : Nat → Nat, S = mh_sumr (fun i => mh_wy cs j (left - i * cs.getD j 0)) := ⟨_, rfl⟩
    have Ss : ∀ k, S (k + 1) = S k + mh_wy cs j (left - k * c) := fun k => by rw [eS, ec]; rfl
    have Sm : ∀ {a b}, a ≤ b → S a ≤ S b := fun hab => by rw [eS]; exact mh_sumr_mo _ hab
    have S0 : S 0 = 0 := by rw [eS]; rfl
    have chat : ∀ k r, k ≤ K → r < mh_wy cs j (left - k * c) → mh_ch cs j left K (S (K + 1) - S (k + 1) + r) = (k, r) := fun k r hk hr => by
      have := mh_ch_at (cs := cs) (j := j) (left := left) (k := k) (r := r) (by rw [← ec]; exact hr) (K - k)
      rw [show k + (K - k) = K by omega] at this
      rw [eS]
      exact this
    rw [← ec] at cb z0 we
    rw [← eK] at dl d2 we
    have we : mh_wy cs (j + 1) left = S (K + 1) := by rw [we, eS, ec]
    have lyk : ∀ k r, k ≤ K → r < mh_wy cs j (left - k * c) → mh_ly cs (j + 1) left (S (K + 1) - S (k + 1) + r) = mh_ly cs j (left - k * c) r ++ [k] := fun k r hk hr => by
      rw [mh_ly, ← ec, ← eK, chat k r hk hr]
    have frx : ∀ {x : mh_H} {M' : Nat} {V' : Nat → List Nat} {cn : Nat → Nat → Prop}, mh_Lt h x bd F M' V' cn → ∀ y, y < 99 → y ≠ 0 → y ≠ 59 → y ≠ 60 → x (bd y) = h (bd y) := fun hx y hy n0 n1 n2 => hx.1 _ (by simp [hI.ne hy (show 0 < 99 by omega) n0, hI.ne hy (show 59 < 99 by omega) n1, hI.ne hy (show 60 < 99 by omega) n2])
    have key := mh_wh (fun m (q : Nat × mh_H) => f_X12_list_b76 (f_X12_list_d D) m (bd 0) (nI p) (nI (j + 1)) (nI left) (nI c) (nI q.1 - 1) q.2) (fun (r : mh_H) => f_X12_list_b133 (f_X12_list_d D) (bd 0) (nI (j + 1)) r) (fun q => q.1 ≤ K + 1 ∧ mh_Lt h q.2 bd F (M + (S (K + 1) - S q.1)) (fun r => if r < M then V r else mh_ly cs (j + 1) left (r - M) ++ rest) (fun i x => i ≠ j ∧ mh_cj (j + 1) rest i x)) (fun q => q.1) (fun r => mh_Lt h r bd F (M + S (K + 1)) (fun r => if r < M then V r else mh_ly cs (j + 1) left (r - M) ++ rest) (fun i x => i ≠ j ∧ mh_cj (j + 1) rest i x))
      (fun m q hq => by
        obtain ⟨t, x⟩ := q
        obtain ⟨q1, q2⟩ := hq
        have q1 : t ≤ K + 1 := q1
        have q2 : mh_Lt h x bd F (M + (S (K + 1) - S t)) (fun r => if r < M then V r else mh_ly cs (j + 1) left (r - M) ++ rest) (fun i x => i ≠ j ∧ mh_cj (j + 1) rest i x) := q2
        show (∃ s', _ ∧ _ ∧ f_X12_list_b76 (f_X12_list_d D) (m + 1) (bd 0) (nI p) (nI (j + 1)) (nI left) (nI c) (nI t - 1) x = _) ∨ ∃ r, _ ∧ f_X12_list_b76 (f_X12_list_d D) (m + 1) (bd 0) (nI p) (nI (j + 1)) (nI left) (nI c) (nI t - 1) x = _
        rw [f_X12_list_b76]
        cases t with
        | zero =>
          right
          rw [S0, Nat.sub_zero] at q2
          exact ⟨x, q2, by rw [if_pos (show nI 0 - 1 < 0 by decide)]⟩
        | succ k =>
          left
          have ek : nI (k + 1) - (1 : Int32) = nI k := pk_sub (b := 1) (by omega)
          obtain ⟨_, ⟨F', o1, _, _⟩, _⟩ := id q2
          obtain ⟨x2, s1, L2⟩ := q2.set (cn' := mh_cj j (k :: rest)) hI (show j < 12 by omega) (k := k) (fun i z hi hz => by
            have hz : z = if i < j then 0 else (k :: rest).getD (i - j) 0 := hz
            by_cases e : i = j
            · left
              rw [e, if_neg (Nat.lt_irrefl j), Nat.sub_self] at hz
              exact ⟨e, hz⟩
            · right
              refine ⟨e, e, ?_⟩
              show z = if i < j + 1 then 0 else rest.getD (i - (j + 1)) 0
              by_cases e2 : i < j
              · rw [if_pos e2] at hz
                rw [if_pos (by omega)]; exact hz
              · rw [if_neg e2, show i - j = (i - (j + 1)) + 1 by omega] at hz
                rw [if_neg (by omega)]; exact hz)
          obtain ⟨_, ⟨F2, o2, _, _⟩, _⟩ := id L2
          have kc : k * c ≤ left := Nat.le_trans (Nat.mul_le_mul_right c (show k ≤ K by omega)) dl
          have hO2 : mh_Oy x2 (bd 42) (fun j => bd (43 + j)) := (frx L2 42 (by omega) (by omega) (by omega) (by omega)).trans hO
          have hG2 := (frx L2 (43 + j) (by omega) (by omega) (by omega) (by omega)).trans (hG j (by omega))
          have wl := mh_wy_le cs j (left - k * c)
          have sk := Ss k
          have sm := Sm (show k + 1 ≤ K + 1 by omega)
          rw [ek, if_neg (nI_pos (by omega)), mh_gR_eq (k := 20) o1 rfl, Option.bind_some, e2, s1, Option.bind_some, mh_gR_eq (k := 12) o2 rfl, Option.bind_some, mh_aR_eq hO2 (show j < 13 by omega) (by omega) rfl, Option.bind_some, mh_nI_mul, pk_sub kc, mh_aJ_eq hG2 (show left - k * c < 3001 by omega) (by omega), Option.bind_some, hv j (by omega) _ (by omega)]
          by_cases cw : mh_wy cs j (left - k * c) = 0
          · refine ⟨(k, x2), ⟨by show k ≤ K + 1; omega, ?_⟩, Nat.lt_succ_self k, ?_⟩
            · show mh_Lt h x2 bd F (M + (S (K + 1) - S k)) _ _
              rw [show S k = S (k + 1) by omega]
              exact L2.congr (fun _ _ => rfl) (fun i z hi hz => by
                obtain ⟨z1, z2⟩ := hz
                have z2 : z = if i < j + 1 then 0 else rest.getD (i - (j + 1)) 0 := z2
                show z = if i < j then 0 else (k :: rest).getD (i - j) 0
                by_cases e2 : i < j
                · rw [if_pos (by omega)] at z2
                  rw [if_pos e2]; exact z2
                · rw [if_neg (by omega)] at z2
                  rw [if_neg e2, show i - j = (i - (j + 1)) + 1 by omega]; exact z2)
            · rw [if_pos (show lg_cmp (lN (mh_wy cs j (left - k * c))) (0 : Int64) ≤ 0 from (mh_cleN (b := 0) (by omega) (by omega)).mpr (by omega))]
              unfold f_X12_list_b127
              rw [mh_nm_eq, mh_decN]
          · have cl : M + (S (K + 1) - S (k + 1)) + mh_wy cs j (left - k * c) ≤ 200 := by
              rw [we] at h4
              omega
            obtain ⟨x3, r1, L3⟩ := ih D (left - k * c) (M + (S (K + 1) - S (k + 1))) x2 _ (k :: rest) (by omega) (by omega) (by omega) cl (fun i => by
              cases i with
              | zero => show k < 2 ^ 31; omega
              | succ i => exact h5 i) L2
            refine ⟨(k, x3), ⟨by show k ≤ K + 1; omega, ?_⟩, Nat.lt_succ_self k, ?_⟩
            · show mh_Lt h x3 bd F (M + (S (K + 1) - S k)) _ _
              rw [show M + (S (K + 1) - S k) = M + (S (K + 1) - S (k + 1)) + mh_wy cs j (left - k * c) by omega]
              refine L3.congr (fun r hr => ?_) (fun i z hi hz => ?_)
              · show (if r < M then V r else mh_ly cs (j + 1) left (r - M) ++ rest) = if r < M + (S (K + 1) - S (k + 1)) then (if r < M then V r else mh_ly cs (j + 1) left (r - M) ++ rest) else mh_ly cs j (left - k * c) (r - (M + (S (K + 1) - S (k + 1)))) ++ k :: rest
                by_cases cr : r < M + (S (K + 1) - S (k + 1))
                · rw [if_pos cr]
                · rw [if_neg cr, if_neg (by omega)]
                  have er : r - M = S (K + 1) - S (k + 1) + (r - (M + (S (K + 1) - S (k + 1)))) := by omega
                  rw [er, lyk k _ (by omega) (by omega), List.append_assoc]
                  rfl
              · obtain ⟨z1, z2⟩ := hz
                have z2 : z = if i < j + 1 then 0 else rest.getD (i - (j + 1)) 0 := z2
                show z = if i < j then 0 else (k :: rest).getD (i - j) 0
                by_cases e2 : i < j
                · rw [if_pos (by omega)] at z2
                  rw [if_pos e2]; exact z2
                · rw [if_neg (by omega)] at z2
                  rw [if_neg e2, show i - j = (i - (j + 1)) + 1 by omega]; exact z2
            · rw [if_neg (fun q : lg_cmp (lN (mh_wy cs j (left - k * c))) (0 : Int64) ≤ 0 => cw (by have := (mh_cleN (b := 0) (by omega) (by omega)).mp q; omega)), mh_cal_eq o2, r1, Option.bind_some]
              unfold f_X12_list_b127
              rw [mh_nm_eq, mh_decN])
      3001 mh_fu (K + 1, hh) (by show K + 1 ≤ 3001; omega) ⟨Nat.le_refl _, by
        show mh_Lt h hh bd F (M + (S (K + 1) - S (K + 1))) _ _
        rw [Nat.sub_self, Nat.add_zero]
        exact hL.congr (fun r hr => if_pos hr) (fun i z hi hz => hz.2)⟩ (mh_fuel _ (by omega))
    obtain ⟨x, z1, z2⟩ := key
    obtain ⟨_, ⟨F', o1, _, _⟩, _⟩ := id hL
    obtain ⟨_, ⟨F3, o3, _, _⟩, _⟩ := id z1
    obtain ⟨x4, s4, L4⟩ := z1.set (cn' := mh_cj (j + 1) rest) hI (show j < 12 by omega) (k := 0) (fun i z hi hz => by
      by_cases e : i = j
      · left
        have hz : z = if i < j + 1 then 0 else rest.getD (i - (j + 1)) 0 := hz
        rw [if_pos (by omega)] at hz
        exact ⟨e, hz⟩
      · exact Or.inr ⟨e, e, hz⟩)
    have s4 : mh_sI x (bd 60) (nI j) (0 : Int32) = some x4 := s4
    have hg' := (frx hL 1 (by omega) (by omega) (by omega) (by omega)).trans hg
    have z2 : f_X12_list_b76 (f_X12_list_d D) mh_fu (bd 0) (nI p) (nI (j + 1)) (nI left) (nI c) (nI (K + 1) - 1) hh = f_X12_list_b133 (f_X12_list_d D) (bd 0) (nI (j + 1)) x := z2
    have eK1 : nI (K + 1) - (1 : Int32) = nI K := pk_sub (b := 1) (by omega)
    rw [eK1] at z2
    refine ⟨x4, ?_, by rw [we]; exact L4⟩
    unfold f_X12_list_e
    rw [if_neg (fun q => absurd ((mh_eqr (b := 0) 0 rfl (by omega) (by omega)).mp q) (by omega)), mh_gR_eq (k := 1) o1 rfl, Option.bind_some, mh_b2_eq mh_r_mintAt, e1, mh_aI_eq hg' (show 13 * p + 1 + j < 304 by omega) (by omega), Option.bind_some, hgv j (by omega), ← ec, mh_nz_eq z0, mh_nm_eq, pk_div (by omega) (by omega) (by omega), ← eK, z2]
    unfold f_X12_list_b133
    rw [mh_gR_eq (k := 20) o3 rfl, Option.bind_some, e2, s4]
    rfl
end MhModelLi
