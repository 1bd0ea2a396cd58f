/-- what a deal looks at -/
def mh_Dc (h : mh_H) (bd : Nat → Nat) (F : Nat → Int32) (p q : Nat) (c1 n1 c2 n2 : List Nat) : Prop := (p < 8 ∧ q < 8) ∧ h (bd 0) = some (.inr (12, mh_rf bd F)) ∧ (∃ g, h (bd 1) = some (.inl (0, 304, .inl g)) ∧ (g (104 + 25 * p) = nI c1.length ∧ ∀ i, i < c1.length → g (104 + 25 * p + 1 + i) = nI (c1.getD i 0) ∧ g (104 + 25 * p + 13 + i) = nI (n1.getD i 0)) ∧ g (104 + 25 * q) = nI c2.length ∧ ∀ i, i < c2.length → g (104 + 25 * q + 1 + i) = nI (c2.getD i 0) ∧ g (104 + 25 * q + 13 + i) = nI (n2.getD i 0)) ∧ mh_pz c1 n1 ∧ mh_pz c2 n2 ∧ mh_Fb h bd 65 c1 n1 ∧ mh_Fb h bd 79 c2 n2
theorem mh_Dc.keep {h h' : mh_H} {bd : Nat → Nat} {F : Nat → Int32} {p q : Nat} {c1 n1 c2 n2 : List Nat} (hI : mh_Inj bd 99) (hD : mh_Dc h bd F p q c1 n1 c2 n2) (hf : mh_fr [bd 96, bd 97] h h') : mh_Dc h' bd F p q c1 n1 c2 n2 := by
  obtain ⟨a1, a2, ⟨g, a3, a4⟩, z1, z2, ⟨G1, b1, b2, b3⟩, G2, d1, d2, d3⟩ := hD
  have k : ∀ y, y < 96 → h' (bd y) = h (bd y) := fun y hy => hf _ (by simp [hI.ne (show y < 99 by omega) (show 96 < 99 by omega) (by omega), hI.ne (show y < 99 by omega) (show 97 < 99 by omega) (by omega)])
  exact ⟨a1, (k 0 (by omega)).trans a2, ⟨g, (k 1 (by omega)).trans a3, a4⟩, z1, z2, ⟨G1, (k 65 (by omega)).trans b1, fun j hj => (k _ (by omega)).trans (b2 j hj), b3⟩, G2, (k 79 (by omega)).trans d1, fun j hj => (k _ (by omega)).trans (d2 j hj), d3⟩
theorem mh_dg_cons (k : Nat) (l : List Nat) : mh_dg (k :: l) = k + 21 * mh_dg l := rfl
theorem mh_drop_s {ks : List Nat} {j : Nat} (hj : j < ks.length) : ks.drop j = ks.getD j 0 :: ks.drop (j + 1) := by
  rw [List.drop_eq_getElem_cons hj, List.getD_eq_getElem?_getD, List.getElem?_eq_getElem hj]
  rfl
theorem mh_Sv_app {n1 ks rest : List Nat} {j N : Nat} (h : mh_Sv n1 j ks) (hl : j + rest.length = N) (hr : ∀ i, i < rest.length → rest.getD i 0 ≤ n1.getD (j + i) 0) : mh_Sv n1 N (ks ++ rest) := by
  refine ⟨by rw [List.length_append, h.1, hl], fun i hi => ?_⟩
  rw [List.getD_eq_getElem?_getD]
  by_cases c : i < j
  · rw [List.getElem?_append_left (by rw [h.1]; exact c), ← List.getD_eq_getElem?_getD]
    exact h.2 i c
  · rw [List.getElem?_append_right (by rw [h.1]; omega), h.1, ← List.getD_eq_getElem?_getD]
    have := hr (i - j) (by omega)
    rwa [show j + (i - j) = i by omega] at this
theorem mh_Sv_take {n1 ks : List Nat} {j N : Nat} (h : mh_Sv n1 N ks) (hj : j ≤ N) : mh_Sv n1 j (ks.take j) := by
  refine ⟨by rw [List.length_take, h.1]; omega, fun i hi => ?_⟩
  rw [List.getD_eq_getElem?_getD, List.getElem?_take_of_lt hi, ← List.getD_eq_getElem?_getD]
  exact h.2 i (by omega)
theorem mh_dot_split {c ks rest : List Nat} {j : Nat} (hj : j ≤ c.length) (hk : ks.length = j) : mh_dot c (ks ++ rest) = mh_dot (c.take j) ks + mh_dot (c.drop j) rest := by
  have := mh_dot_apps (c.take j) ks (c.drop j) rest (by rw [List.length_take, hk]; omega)
  rwa [List.take_append_drop] at this
/-- a choice of how many are given, from the top down -/
def mh_Ch (c1 n1 c2 n2 : List Nat) (s v j : Nat) (rest : List Nat) : Prop := j + rest.length = c1.length ∧ (∀ i, i < rest.length → rest.getD i 0 ≤ n1.getD (j + i) 0) ∧ (∃ ks ms, mh_Cp c1 n1 c2 n2 j s (mh_dot (c1.drop j) rest) ks ms ∧ ks.sum + ms.sum + rest.sum = v) ∧ ∀ ks ms, mh_Cp c1 n1 c2 n2 c1.length s 0 ks ms → ks.sum + ms.sum = v → mh_dg (ks.drop j) ≤ mh_dg rest
theorem mh_Cp_app {c1 n1 c2 n2 ks ms rest : List Nat} {s j : Nat} (hl : j + rest.length = c1.length) (hr : ∀ i, i < rest.length → rest.getD i 0 ≤ n1.getD (j + i) 0) (h : mh_Cp c1 n1 c2 n2 j s (mh_dot (c1.drop j) rest) ks ms) : mh_Cp c1 n1 c2 n2 c1.length s 0 (ks ++ rest) ms := by
  refine ⟨mh_Sv_app h.1 hl hr, h.2.1, ?_⟩
  rw [List.take_length, mh_dot_split (by omega) h.1.1, Nat.add_zero]
  exact h.2.2
theorem mh_rest_cons {c1 rest : List Nat} {j k : Nat} (hj : j < c1.length) : mh_dot (c1.drop j) (k :: rest) = k * c1.getD j 0 + mh_dot (c1.drop (j + 1)) rest := by
  rw [mh_drop_s hj]
  rfl
/-- which numbers of the next coin keep to the least -/
def mh_Ok (c1 n1 c2 n2 : List Nat) (s v j : Nat) (rest : List Nat) (k : Nat) : Prop := ∃ ks ms, mh_Cp c1 n1 c2 n2 j s (mh_dot (c1.drop j) (k :: rest)) ks ms ∧ ks.sum + ms.sum + (k :: rest).sum = v
theorem mh_Ch_s {c1 n1 c2 n2 : List Nat} (z1 : mh_pz c1 n1) {s v j k : Nat} {rest : List Nat} (hC : mh_Ch c1 n1 c2 n2 s v (j + 1) rest) (hk : k ≤ n1.getD j 0) (hok : mh_Ok c1 n1 c2 n2 s v j rest k) (hm : ∀ k', k < k' → k' ≤ n1.getD j 0 → ¬ mh_Ok c1 n1 c2 n2 s v j rest k') : mh_Ch c1 n1 c2 n2 s v j (k :: rest) := by
  obtain ⟨a1, a2, a3, a4⟩ := hC
  have hj : j < c1.length := by omega
  refine ⟨by rw [List.length_cons]; omega, fun i hi => ?_, hok, fun ks ms hc ht => ?_⟩
  · cases i with
    | zero => exact hk
    | succ i =>
      rw [List.length_cons] at hi
      have := a2 i (by omega)
      rw [show j + 1 + i = j + (i + 1) by omega] at this
      exact this
  · have lk : ks.length = c1.length := hc.1.1
    have b := a4 ks ms hc ht
    rw [mh_drop_s (show j < ks.length by omega), mh_dg_cons, mh_dg_cons]
    have k20 : ks.getD j 0 ≤ n1.getD j 0 := hc.1.2 j hj
    have n20 := z1.2.2.1 j
    by_cases e : mh_dg (ks.drop (j + 1)) = mh_dg rest
    · -- the same above
      have inj : ks.drop (j + 1) = rest := by
        refine mh_dg_inj _ _ (by rw [List.length_drop]; omega) (fun x hx => mh_Sv_20 z1.2.2.1 hc.1 x (List.mem_of_mem_drop hx)) (fun x hx => ?_) e
        obtain ⟨i, i1, i2⟩ := mh_mem_get hx
        have := a2 i i1
        have := z1.2.2.1 (j + 1 + i)
        omega
      have ek : ks = ks.take j ++ (ks.getD j 0 :: rest) := by
        rw [← inj, ← mh_drop_s (show j < ks.length by omega), List.take_append_drop]
      have ok' : mh_Ok c1 n1 c2 n2 s v j rest (ks.getD j 0) := by
        refine ⟨ks.take j, ms, ⟨mh_Sv_take hc.1 (by omega), hc.2.1, ?_⟩, ?_⟩
        · have h3 := hc.2.2
          rw [List.take_length, ek, mh_dot_split (show j ≤ c1.length by omega) (by rw [List.length_take]; omega), Nat.add_zero] at h3
          exact h3
        · have : ks.sum = (ks.take j).sum + (ks.getD j 0 :: rest).sum := by
            rw [← List.sum_append_nat, ← ek]
          omega
      have le : ks.getD j 0 ≤ k := Nat.le_of_not_lt (fun z => hm _ z k20 ok')
      omega
    · omega
section MhModelD
variable {h : mh_H} {bd : Nat → Nat} {σ : mh_Sg} {F : Nat → Int32}
theorem mh_r_outk (k57 : Nat → Int32 → Int32 → Int32 → Int32 → Int32 → Int32 → Int32 → Int32 → Int32 → mh_H → Option (Int32 × mh_H)) {x5 x6 : Int32} {p q s v j : Nat} {c1 n1 c2 n2 rest : List Nat} (hD : mh_Dc h bd F p q c1 n1 c2 n2) (hs : s < 2 ^ 31) (hv : v ≤ 480) (hmin : ∀ ks ms, mh_Cp c1 n1 c2 n2 c1.length s 0 ks ms → v ≤ ks.sum + ms.sum) (hC : mh_Ch c1 n1 c2 n2 s v (j + 1) rest) : ∀ (K m : Nat), K ≤ n1.getD j 0 → K < m → (∃ k, k ≤ K ∧ mh_Ok c1 n1 c2 n2 s v j rest k) → ∃ k, k ≤ K ∧ mh_Ok c1 n1 c2 n2 s v j rest k ∧ (∀ k', k < k' → k' ≤ K → ¬ mh_Ok c1 n1 c2 n2 s v j rest k') ∧ f_X12_deal_b89 k57 m (bd 0) (nI p) (nI q) (nI s) (nI v) x5 x6 (nI (mh_dot (c1.drop (j + 1)) rest)) (nI rest.sum) (nI (j + 1)) (nI (c1.getD j 0)) (nI K) h = f_X12_deal_b125 k57 (bd 0) (nI p) (nI q) (nI s) (nI v) x5 x6 (nI (mh_dot (c1.drop (j + 1)) rest)) (nI rest.sum) (nI (j + 1)) (nI (c1.getD j 0)) (nI k) h := by
  obtain ⟨⟨hp, hq⟩, ho, ⟨g, hg, g1, g2, g3⟩, z1, z2, T1, T2⟩ := hD
  obtain ⟨a1, a2, a3, a4⟩ := id hC
  have hj : j < c1.length := by omega
  have l1 := z1.1.1.1
  have rs : rest.sum ≤ 240 := by
    have := mh_sum_b rest 20 (fun i hi => by have := a2 i hi; have := z1.2.2.1 (j + 1 + i); omega)
    have := Nat.mul_le_mul_right 20 (show rest.length ≤ 12 by omega)
    omega
  intro K
  induction K with
  | zero =>
    intro m h1 h2 ⟨k, k1, k2⟩
    rw [Nat.le_zero.mp k1] at k2
    obtain ⟨m, rfl⟩ : ∃ t, m = t + 1 := ⟨m - 1, by omega⟩
    obtain ⟨ks, ms, e1, e2⟩ := id k2
    have ed : mh_dot (c1.drop j) (0 :: rest) = mh_dot (c1.drop (j + 1)) rest + 0 * c1.getD j 0 := by rw [mh_rest_cons hj]; omega
    have gb : mh_dot (c1.drop (j + 1)) rest + 0 * c1.getD j 0 ≤ 20000 := by
      rw [← ed]
      have t := mh_Cp_app (rest := 0 :: rest) (by rw [List.length_cons]; omega) (fun i hi => by
        cases i with
        | zero => exact Nat.zero_le _
        | succ i => rw [List.length_cons] at hi; have := a2 i (by omega); rw [show j + 1 + i = j + (i + 1) by omega] at this; exact this) e1
      have t2 := mh_vp_le z1 (s := mh_dot c1 (ks ++ 0 :: rest)) ⟨t.1, rfl⟩
      have := mh_dot_split (c := c1) (ks := ks) (rest := 0 :: rest) (show j ≤ c1.length by omega) e1.1.1
      have := z1.2.2.2
      omega
    obtain ⟨L, u1, u2⟩ := mh_r_least (F := F) (j := j) (gv := mh_dot (c1.drop (j + 1)) rest + 0 * c1.getD j 0) hq ho hg z1 z2 g2 g3 T1 T2 (by omega) hs gb
    rw [ed] at e1
    have eL : L + rest.sum + 0 = v := by
      rcases u2 with ⟨t1, t2⟩ | ⟨t1, ⟨k', m', t2, t3⟩, t4⟩
      · exact absurd e1 (t2 ks ms)
      · have b1 := t4 ks ms e1
        have e2' : ks.sum + ms.sum + (0 + rest.sum) = v := e2
        rw [← ed] at t2
        have b2 := hmin _ _ (mh_Cp_app (rest := 0 :: rest) (by rw [List.length_cons]; omega) (fun i hi => by
          cases i with
          | zero => exact Nat.zero_le _
          | succ i => rw [List.length_cons] at hi; have := a2 i (by omega); rw [show j + 1 + i = j + (i + 1) by omega] at this; exact this) t2)
        rw [List.sum_append_nat] at b2
        have b2 : v ≤ k'.sum + (0 + rest.sum) + m'.sum := b2
        omega
    have ej : nI (j + 1) - (1 : Int32) = nI j := pk_sub (b := 1) (by omega)
    refine ⟨0, Nat.le_refl _, k2, fun k' q1 q2 => by omega, ?_⟩
    rw [f_X12_deal_b89, ej, nI_l hs, mh_nI_mul, nI_add, mh_cal_eq ho, mh_b2_eq u1, nI_add, nI_add, if_pos (by rw [eL])]
  | succ K ih =>
    intro m h1 h2 ⟨k, k1, k2⟩
    obtain ⟨m, rfl⟩ : ∃ t, m = t + 1 := ⟨m - 1, by omega⟩
    have cb := z1.1.1.get hj
    have nb := z1.2.2.1 j
    have ed : mh_dot (c1.drop j) ((K + 1) :: rest) = mh_dot (c1.drop (j + 1)) rest + (K + 1) * c1.getD j 0 := by rw [mh_rest_cons hj]; omega
    have hr' : ∀ i, i < ((K + 1) :: rest).length → ((K + 1) :: rest).getD i 0 ≤ n1.getD (j + i) 0 := fun i hi => by
      cases i with
      | zero => exact h1
      | succ i => rw [List.length_cons] at hi; have := a2 i (by omega); rw [show j + 1 + i = j + (i + 1) by omega] at this; exact this
    have hl' : j + ((K + 1) :: rest).length = c1.length := by rw [List.length_cons]; omega
    have gb : mh_dot (c1.drop (j + 1)) rest + (K + 1) * c1.getD j 0 ≤ 20000 := by
      rw [← ed]
      have sv : mh_Sv n1 c1.length (List.replicate j 0 ++ ((K + 1) :: rest)) := mh_Sv_app ⟨List.length_replicate, fun i hi => by
        rw [List.getD_eq_getElem?_getD, List.getElem?_replicate, if_pos hi]
        exact Nat.zero_le _⟩ hl' hr'
      have t2 := mh_vp_le z1 (s := mh_dot c1 (List.replicate j 0 ++ ((K + 1) :: rest))) ⟨sv, rfl⟩
      have := mh_dot_split (c := c1) (ks := List.replicate j 0) (rest := (K + 1) :: rest) (show j ≤ c1.length by omega) List.length_replicate
      have := z1.2.2.2
      omega
    obtain ⟨L, u1, u2⟩ := mh_r_least (F := F) (j := j) (gv := mh_dot (c1.drop (j + 1)) rest + (K + 1) * c1.getD j 0) hq ho hg z1 z2 g2 g3 T1 T2 (by omega) hs gb
    have Lb : L ≤ 536870912 := by rcases u2 with ⟨t, _⟩ | ⟨t, _⟩ <;> omega
    have ej : nI (j + 1) - (1 : Int32) = nI j := pk_sub (b := 1) (by omega)
    have iff : L + rest.sum + (K + 1) = v ↔ mh_Ok c1 n1 c2 n2 s v j rest (K + 1) := by
      constructor
      · intro e
        rcases u2 with ⟨t1, t2⟩ | ⟨t1, ⟨k', m', t2, t3⟩, t4⟩
        · omega
        · rw [← ed] at t2
          refine ⟨k', m', t2, ?_⟩
          rw [List.sum_cons]
          omega
      · rintro ⟨ks, ms, e1, e2⟩
        rw [ed] at e1
        rcases u2 with ⟨t1, t2⟩ | ⟨t1, ⟨k', m', t2, t3⟩, t4⟩
        · exact absurd e1 (t2 ks ms)
        · have b1 := t4 ks ms e1
          rw [List.sum_cons] at e2
          rw [← ed] at t2
          have b2 := hmin _ _ (mh_Cp_app hl' hr' t2)
          rw [List.sum_append_nat, List.sum_cons] at b2
          omega
    rw [f_X12_deal_b89, ej, nI_l hs, mh_nI_mul, nI_add, mh_cal_eq ho, mh_b2_eq u1, nI_add, nI_add]
    by_cases c : L + rest.sum + (K + 1) = v
    · exact ⟨K + 1, Nat.le_refl _, iff.mp c, fun k' q1 q2 => by omega, by rw [if_pos (by rw [c])]⟩
    · have no := fun t => c (iff.mpr t)
      obtain ⟨k', e1, e2, e3, e4⟩ := ih m (by omega) (by omega) ⟨k, by
        by_cases e : k = K + 1
        · rw [e] at k2; exact absurd k2 no
        · omega, k2⟩
      refine ⟨k', by omega, e2, fun t q1 q2 => ?_, ?_⟩
      · by_cases e : t = K + 1
        · rw [e]; exact no
        · exact e3 t q1 (by omega)
      · rw [if_neg (fun t => c ((nI_eq (by omega) (by omega)).mp t)), mh_nm_eq, mh_dec, e4]
theorem mh_r_out {p q s v : Nat} {c1 n1 c2 n2 : List Nat} (hI : mh_Inj bd 99) (hD : mh_Dc h bd F p q c1 n1 c2 n2) (hs : s < 2 ^ 31) (hv : v ≤ 480) (hmin : ∀ ks ms, mh_Cp c1 n1 c2 n2 c1.length s 0 ks ms → v ≤ ks.sum + ms.sum) : ∀ (j m : Nat) (hh : mh_H) (rest : List Nat) (fo : Nat → Int32), j < m → mh_Ch c1 n1 c2 n2 s v j rest → mh_fr [bd 96] h hh → hh (bd 96) = some (.inl (0, 12, .inl fo)) → (∀ i, i < rest.length → fo (j + i) = nI (rest.getD i 0)) → ∃ h' fo' ks, f_X12_deal_b57 m (bd 0) (nI p) (nI q) (nI s) (nI v) (nI (104 + 25 * p)) (nI (104 + 25 * q)) (nI (mh_dot (c1.drop j) rest)) (nI rest.sum) (nI j) hh = f_X12_deal_b159 (bd 0) (nI p) (nI q) (nI s) (nI v) (nI (104 + 25 * p)) (nI (104 + 25 * q)) (nI (mh_dot c1 ks)) (nI ks.sum) h' ∧ mh_Ch c1 n1 c2 n2 s v 0 ks ∧ mh_fr [bd 96] h h' ∧ h' (bd 96) = some (.inl (0, 12, .inl fo')) ∧ ∀ i, i < c1.length → fo' i = nI (ks.getD i 0) := by
  intro j
  induction j with
  | zero =>
    intro m hh rest fo h1 hC h2 h3 h4
    obtain ⟨m, rfl⟩ : ∃ t, m = t + 1 := ⟨m - 1, by omega⟩
    refine ⟨hh, fo, rest, ?_, hC, h2, h3, fun i hi => ?_⟩
    · rw [f_X12_deal_b57, if_pos (by decide)]
      rfl
    · have := h4 i (by have := hC.1; omega)
      rwa [Nat.zero_add] at this
  | succ j ih =>
    intro m hh rest fo h1 hC h2 h3 h4
    obtain ⟨m, rfl⟩ : ∃ t, m = t + 1 := ⟨m - 1, by omega⟩
    have hD' := hD.keep hI (h' := hh) (h2.sub (fun x hx => by rw [List.mem_singleton.mp hx]; simp))
    obtain ⟨⟨hp, hq⟩, ho, ⟨g, hg, ⟨g1, g1'⟩, g2, g3⟩, z1, z2, T1, T2⟩ := id hD'
    obtain ⟨a1, a2, ⟨ks, ms, a3, a3'⟩, a4⟩ := id hC
    have hj : j < c1.length := by omega
    have l1 := z1.1.1.1
    have cb := z1.1.1.get hj
    have nb := z1.2.2.1 j
    -- there is one that keeps to the least
    have ex : ∃ k, k ≤ n1.getD j 0 ∧ mh_Ok c1 n1 c2 n2 s v j rest k := by
      obtain ⟨k, l, e1, e2, e3⟩ := mh_Sv_inv a3.1
      refine ⟨k, e3, l, ms, ⟨e2, a3.2.1, ?_⟩, ?_⟩
      · have h3 := a3.2.2
        rw [e1, mh_take_s hj, mh_dot_app _ _ _ _ (by rw [List.length_take, e2.1]; omega)] at h3
        rw [mh_rest_cons hj, Nat.mul_comm k]
        omega
      · rw [e1, mh_sum_app] at a3'
        rw [List.sum_cons]
        omega
    obtain ⟨k, b1, b2, b3, b4⟩ := mh_r_outk (f_X12_deal_b57 m) (x5 := nI (104 + 25 * p)) (x6 := nI (104 + 25 * q)) hD' hs hv hmin hC (n1.getD j 0) mh_fu (Nat.le_refl _) (mh_fuel _ (by omega)) ex
    have hC2 := mh_Ch_s z1 hC b1 b2 b3
    have e1 : nI (104 + 25 * p) + nI (j + 1) = nI (104 + 25 * p + 1 + j) := by rw [nI_add]; congr 1; omega
    have e12 : nI (104 + 25 * p) + (12 : Int32) + nI (j + 1) = nI (104 + 25 * p + 13 + j) := by rw [show (12 : Int32) = nI 12 from rfl, nI_add, nI_add]; congr 1; omega
    have ej : nI (j + 1) - (1 : Int32) = nI j := pk_sub (b := 1) (by omega)
    have ed : nI (mh_dot (c1.drop (j + 1)) rest) + nI k * nI (c1.getD j 0) = nI (mh_dot (c1.drop j) (k :: rest)) := by rw [mh_nI_mul, nI_add, mh_rest_cons hj, Nat.add_comm]
    have es : nI rest.sum + nI k = nI (k :: rest).sum := by rw [nI_add, List.sum_cons, Nat.add_comm]
    obtain ⟨H2, eH2⟩ : ∃ H2, H2 = mh_up hh (bd 96) (.inl (0, 12, .inl (upd fo j (nI k)))) := ⟨_, rfl⟩
    have s2 : mh_sI hh (bd 96) (nI j) (nI k) = some H2 := by rw [eH2]; exact mh_sI_eq h3 (by omega) (by omega)
    obtain ⟨h', fo', ks', w1, w2, w3, w4, w5⟩ := ih m H2 (k :: rest) (upd fo j (nI k)) (by omega) hC2 (by rw [eH2]; exact h2.trans (mh_fr.up List.mem_cons_self)) (by rw [eH2]; exact mh_up_eq _ _ _) (fun i hi => by
      rw [List.length_cons] at hi
      cases i with
      | zero => rw [Nat.add_zero, pk_us]; rfl
      | succ i =>
        rw [pk_un (by omega)]
        have := h4 i (by omega)
        rw [show j + 1 + i = j + (i + 1) by omega] at this
        exact this)
    refine ⟨h', fo', ks', ?_, w2, w3, w4, w5⟩
    rw [f_X12_deal_b57, if_neg (nI_nle (by omega) (by omega)), mh_gR_eq (k := 1) ho rfl, Option.bind_some, e1, mh_aI_eq hg (show 104 + 25 * p + 1 + j < 304 by omega) (by omega), Option.bind_some, Option.bind_some, e12, mh_aI_eq hg (show 104 + 25 * p + 13 + j < 304 by omega) (by omega), Option.bind_some, (g1' j hj).1, (g1' j hj).2, b4]
    unfold f_X12_deal_b125
    rw [mh_gR_eq (k := 35) ho rfl, Option.bind_some, ej, s2, Option.bind_some, mh_nm_eq, mh_nm_eq, mh_nm_eq, ed, es, mh_dec]
    exact w1
/-- a choice of how many are given back, from the top down -/
def mh_Cb (c n : List Nat) (t u j left rs : Nat) (rest : List Nat) : Prop := j + rest.length = c.length ∧ (∀ i, i < rest.length → rest.getD i 0 ≤ n.getD (j + i) 0) ∧ (∃ ks, mh_vj c n j left ks ∧ ks.sum = rs) ∧ mh_Wv c n j left = rs ∧ left + mh_dot (c.drop j) rest = t ∧ rs + rest.sum = u ∧ ∀ ks, mh_vp c n t ks → ks.sum = u → mh_dg (ks.drop j) ≤ mh_dg rest
theorem mh_r_ink (k181 : Nat → Int32 → Int32 → Int32 → Int32 → Int32 → Int32 → Int32 → Int32 → Int32 → mh_H → Option (Int32 × mh_H)) {x1 x2 x3 x4 x5 x6 : Int32} {c n : List Nat} {j left rs : Nat} (ho : h (bd 0) = some (.inr (12, mh_rf bd F))) (z : mh_pz c n) (T : mh_Fb h bd 79 c n) (hj : j < c.length) (hl : left ≤ 20000) (hrs : rs ≤ 240) : ∀ (K m : Nat), K * c.getD j 0 ≤ left → K ≤ 20 → K < m → (∃ k, k ≤ K ∧ mh_Wv c n j (left - k * c.getD j 0) + k = rs) → ∃ k, k ≤ K ∧ mh_Wv c n j (left - k * c.getD j 0) + k = rs ∧ (∀ k', k < k' → k' ≤ K → mh_Wv c n j (left - k' * c.getD j 0) + k' ≠ rs) ∧ f_X12_deal_b221 k181 m (bd 0) x1 x2 x3 x4 x5 x6 (nI left) (nI rs) (nI (j + 1)) (nI (c.getD j 0)) (nI K) h = f_X12_deal_b253 k181 (bd 0) x1 x2 x3 x4 x5 x6 (nI left) (nI rs) (nI (j + 1)) (nI (c.getD j 0)) (nI k) h := by
  have l1 := z.1.1.1
  obtain ⟨G, t1, t2, t3⟩ := T
  have ej : nI (j + 1) - (1 : Int32) = nI j := pk_sub (b := 1) (by omega)
  intro K
  induction K with
  | zero =>
    intro m h0 _ h2 ⟨k, k1, k2⟩
    rw [Nat.le_zero.mp k1] at k2
    obtain ⟨m, rfl⟩ : ∃ t, m = t + 1 := ⟨m - 1, by omega⟩
    refine ⟨0, Nat.le_refl _, k2, fun k' q1 q2 => by omega, ?_⟩
    rw [f_X12_deal_b221, mh_gR_eq (k := 31) ho rfl, Option.bind_some, ej, mh_aR_eq t1 (show j < 13 by omega) (by omega) rfl, Option.bind_some, mh_nI_mul, pk_sub h0, mh_aI_eq (t2 j (by omega)) (show left - 0 * c.getD j 0 < 20001 by omega) (by omega), Option.bind_some, t3 j (by omega) _ (by omega), nI_add, if_pos (by rw [k2])]
  | succ K ih =>
    intro m h0 h20 h2 ⟨k, k1, k2⟩
    obtain ⟨m, rfl⟩ : ∃ t, m = t + 1 := ⟨m - 1, by omega⟩
    have wl := mh_Wv_le z (show j ≤ c.length by omega) (left - (K + 1) * c.getD j 0)
    rw [f_X12_deal_b221, mh_gR_eq (k := 31) ho rfl, Option.bind_some, ej, mh_aR_eq t1 (show j < 13 by omega) (by omega) rfl, Option.bind_some, mh_nI_mul, pk_sub h0, mh_aI_eq (t2 j (by omega)) (show left - (K + 1) * c.getD j 0 < 20001 by omega) (by omega), Option.bind_some, t3 j (by omega) _ (by omega), nI_add]
    by_cases e : mh_Wv c n j (left - (K + 1) * c.getD j 0) + (K + 1) = rs
    · exact ⟨K + 1, Nat.le_refl _, e, fun k' q1 q2 => by omega, by rw [if_pos (by rw [e])]⟩
    · obtain ⟨k', e1, e2, e3, e4⟩ := ih m (Nat.le_trans (Nat.mul_le_mul_right _ (by omega)) h0) (by omega) (by omega) ⟨k, by
        by_cases z : k = K + 1
        · rw [z] at k2; exact absurd k2 e
        · omega, k2⟩
      refine ⟨k', by omega, e2, fun t q1 q2 => ?_, ?_⟩
      · by_cases z : t = K + 1
        · rw [z]; exact e
        · exact e3 t q1 (by omega)
      · rw [if_neg (fun t => e ((nI_eq (by omega) (by omega)).mp t)), mh_nm_eq, mh_dec, e4]
theorem mh_r_in {p q s v t u : Nat} {c1 n1 c2 n2 : List Nat} (hI : mh_Inj bd 99) (hD : mh_Dc h bd F p q c1 n1 c2 n2) (ht : t ≤ 20000) (hu : u ≤ 240) : ∀ (j m left rs : Nat) (hh : mh_H) (rest : List Nat) (fi : Nat → Int32), j < m → mh_Cb c2 n2 t u j left rs rest → mh_fr [bd 97] h hh → hh (bd 97) = some (.inl (0, 12, .inl fi)) → (∀ i, i < rest.length → fi (j + i) = nI (rest.getD i 0)) → ∃ h' fi' ms, f_X12_deal_b181 m (bd 0) (nI p) (nI q) (nI s) (nI v) (nI (104 + 25 * p)) (nI (104 + 25 * q)) (nI left) (nI rs) (nI j) hh = f_X12_deal_b287 (bd 0) (nI p) (nI q) (nI s) (nI v) (nI (104 + 25 * p)) (nI (104 + 25 * q)) h' ∧ mh_vp c2 n2 t ms ∧ ms.sum = u ∧ (∀ ks, mh_vp c2 n2 t ks → ks.sum = u → mh_dg ks ≤ mh_dg ms) ∧ mh_fr [bd 97] h h' ∧ h' (bd 97) = some (.inl (0, 12, .inl fi')) ∧ ∀ i, i < c2.length → fi' i = nI (ms.getD i 0) := by
  intro j
  induction j with
  | zero =>
    intro m left rs hh rest fi h1 hC h2 h3 h4
    obtain ⟨m, rfl⟩ : ∃ t, m = t + 1 := ⟨m - 1, by omega⟩
    obtain ⟨a1, a2, ⟨ks, ⟨a3, a3'⟩, a3''⟩, a4, a5, a6, a7⟩ := hC
    have e0 : ks = [] := List.length_eq_zero_iff.mp a3.1
    subst e0
    have l0 : left = 0 := by rw [← a3']; rfl
    have r0 : rs = 0 := by rw [← a3'']; rfl
    rw [l0, List.drop_zero, Nat.zero_add] at a5
    refine ⟨hh, fi, rest, ?_, ⟨⟨by omega, fun i hi => by have := a2 i (by omega); rwa [Nat.zero_add] at this⟩, a5⟩, by omega, fun ks hk hs => by have := a7 ks hk hs; rwa [List.drop_zero] at this, h2, h3, fun i hi => ?_⟩
    · rw [f_X12_deal_b181, if_pos (by decide)]
    · have := h4 i (by omega)
      rwa [Nat.zero_add] at this
  | succ j ih =>
    intro m left rs hh rest fi h1 hC h2 h3 h4
    obtain ⟨m, rfl⟩ : ∃ t, m = t + 1 := ⟨m - 1, by omega⟩
    have hD' := hD.keep hI (h' := hh) (h2.sub (fun x hx => by rw [List.mem_singleton.mp hx]; simp))
    obtain ⟨⟨hp, hq⟩, ho, ⟨g, hg, ⟨g1, g1'⟩, g2, g3⟩, z1, z2, T1, T2⟩ := id hD'
    obtain ⟨a1, a2, ⟨ks, a3, a3'⟩, a4, a5, a6, a7⟩ := id hC
    have hj : j < c2.length := by omega
    have l1 := z2.1.1.1
    have cb := z2.1.1.get hj
    have nb := z2.2.2.1 j
    have z0 : ¬ nI (c2.getD j 0) = 0 := fun z => absurd ((mh_eqr (b := 0) 0 rfl (by omega) (by omega)).mp z) (by omega)
    -- what is told of the least
    have low : ∀ k l, k ≤ n2.getD j 0 → k * c2.getD j 0 ≤ left → mh_vj c2 n2 j (left - k * c2.getD j 0) l → rs ≤ l.sum + k := fun k l k1 k2 k3 => by
      have t1 := mh_vj_s z2 hj k3 k1
      rw [Nat.sub_add_cancel k2] at t1
      have := mh_Wv_lo z2 (show j + 1 ≤ c2.length by omega) t1
      rw [mh_sum_app] at this
      omega
    have okk : ∀ k, k ≤ n2.getD j 0 → k * c2.getD j 0 ≤ left → (mh_Wv c2 n2 j (left - k * c2.getD j 0) + k = rs ↔ ∃ l, mh_vj c2 n2 j (left - k * c2.getD j 0) l ∧ l.sum + k = rs) := fun k k1 k2 => by
      rcases mh_Wv_ok z2 (show j ≤ c2.length by omega) (left - k * c2.getD j 0) with ⟨t1, t2⟩ | ⟨t1, l, t2, t3, t4⟩
      · exact ⟨fun e => by omega, fun ⟨l, e1, _⟩ => absurd e1 (t2 l)⟩
      · refine ⟨fun e => ⟨l, t2, by omega⟩, fun ⟨l', e1, e2⟩ => ?_⟩
        have := t4 l' e1
        have := low k l k1 k2 t2
        omega
    obtain ⟨k0, l0, d1, d2, d3, d4⟩ := mh_vj_inv hj a3
    rw [d1, mh_sum_app] at a3'
    obtain ⟨K, eK⟩ : ∃ K, K = if left / c2.getD j 0 < n2.getD j 0 then left / c2.getD j 0 else n2.getD j 0 := ⟨_, rfl⟩
    have Kn : K ≤ n2.getD j 0 := by rw [eK]; split <;> omega
    have Kd : K ≤ left / c2.getD j 0 := by rw [eK]; split <;> omega
    have Kl : K * c2.getD j 0 ≤ left := (Nat.le_div_iff_mul_le (by omega)).mp Kd
    have Kmax : ∀ k, k ≤ n2.getD j 0 → k * c2.getD j 0 ≤ left → k ≤ K := fun k k1 k2 => by
      have := (Nat.le_div_iff_mul_le (show 0 < c2.getD j 0 by omega)).mpr k2
      rw [eK]; split <;> omega
    have dl := Nat.div_le_self left (c2.getD j 0)
    have lb : left ≤ 20000 := by omega
    have eKI : (if nI (left / c2.getD j 0) < nI (n2.getD j 0) then nI (left / c2.getD j 0) else nI (n2.getD j 0)) = nI K := by
      rw [eK]
      by_cases c : left / c2.getD j 0 < n2.getD j 0
      · rw [if_pos c, if_pos ((nI_ltI (by omega) (by omega)).mpr c)]
      · rw [if_neg c, if_neg (fun z => c ((nI_ltI (by omega) (by omega)).mp z))]
    obtain ⟨k, b1, b2, b3, b4⟩ := mh_r_ink (f_X12_deal_b181 m) (x1 := nI p) (x2 := nI q) (x3 := nI s) (x4 := nI v) (x5 := nI (104 + 25 * p)) (x6 := nI (104 + 25 * q)) ho z2 T2 hj lb (show rs ≤ 240 by omega) K mh_fu Kl (by omega) (mh_fuel _ (by omega)) ⟨k0, Kmax k0 d2 d3, (okk k0 d2 d3).mpr ⟨l0, d4, a3'⟩⟩
    have kn : k ≤ n2.getD j 0 := by omega
    have kl : k * c2.getD j 0 ≤ left := Nat.le_trans (Nat.mul_le_mul_right _ b1) Kl
    obtain ⟨l, e1, e2⟩ := (okk k kn kl).mp b2
    have hC2 : mh_Cb c2 n2 t u j (left - k * c2.getD j 0) (rs - k) (k :: rest) := by
      refine ⟨by rw [List.length_cons]; omega, fun i hi => ?_, ⟨l, e1, by omega⟩, by omega, ?_, by rw [List.sum_cons]; omega, fun ks hk hs => ?_⟩
      · cases i with
        | zero => exact kn
        | succ i =>
          rw [List.length_cons] at hi
          have := a2 i (by omega)
          rw [show j + 1 + i = j + (i + 1) by omega] at this
          exact this
      · rw [mh_rest_cons hj]
        omega
      · have lk : ks.length = c2.length := hk.1.1
        have b := a7 ks hk hs
        rw [mh_drop_s (show j < ks.length by omega), mh_dg_cons, mh_dg_cons]
        have k20 : ks.getD j 0 ≤ n2.getD j 0 := hk.1.2 j hj
        by_cases e : mh_dg (ks.drop (j + 1)) = mh_dg rest
        · have inj : ks.drop (j + 1) = rest := by
            refine mh_dg_inj _ _ (by rw [List.length_drop]; omega) (fun x hx => mh_Sv_20 z2.2.2.1 hk.1 x (List.mem_of_mem_drop hx)) (fun x hx => ?_) e
            obtain ⟨i, i1, i2⟩ := mh_mem_get hx
            have := a2 i i1
            have := z2.2.2.1 (j + 1 + i)
            omega
          have ek : ks = ks.take j ++ (ks.getD j 0 :: rest) := by
            rw [← inj, ← mh_drop_s (show j < ks.length by omega), List.take_append_drop]
          have dk := hk.2
          rw [ek, mh_dot_split (show j ≤ c2.length by omega) (by rw [List.length_take]; omega), mh_rest_cons hj] at dk
          have sk : ks.sum = (ks.take j).sum + (ks.getD j 0 :: rest).sum := by rw [← List.sum_append_nat, ← ek]
          rw [List.sum_cons] at sk
          have c1 : ks.getD j 0 * c2.getD j 0 ≤ left := by omega
          have kle := Kmax _ k20 c1
          have okx := (okk _ k20 c1).mpr ⟨ks.take j, ⟨mh_Sv_take hk.1 (by omega), by omega⟩, by omega⟩
          have le : ks.getD j 0 ≤ k := Nat.le_of_not_lt (fun z => b3 _ z kle okx)
          omega
        · omega
    have e1' : nI (104 + 25 * q) + nI (j + 1) = nI (104 + 25 * q + 1 + j) := by rw [nI_add]; congr 1; omega
    have e12 : nI (104 + 25 * q) + (12 : Int32) + nI (j + 1) = nI (104 + 25 * q + 13 + j) := by rw [show (12 : Int32) = nI 12 from rfl, nI_add, nI_add]; congr 1; omega
    have ej : nI (j + 1) - (1 : Int32) = nI j := pk_sub (b := 1) (by omega)
    obtain ⟨H2, eH2⟩ : ∃ H2, H2 = mh_up hh (bd 97) (.inl (0, 12, .inl (upd fi j (nI k)))) := ⟨_, rfl⟩
    have s2 : mh_sI hh (bd 97) (nI j) (nI k) = some H2 := by rw [eH2]; exact mh_sI_eq h3 (by omega) (by omega)
    obtain ⟨h', fi', ms, w1, w2⟩ := ih m (left - k * c2.getD j 0) (rs - k) H2 (k :: rest) (upd fi j (nI k)) (by omega) hC2 (by rw [eH2]; exact h2.trans (mh_fr.up List.mem_cons_self)) (by rw [eH2]; exact mh_up_eq _ _ _) (fun i hi => by
      rw [List.length_cons] at hi
      cases i with
      | zero => rw [Nat.add_zero, pk_us]; rfl
      | succ i =>
        rw [pk_un (by omega)]
        have := h4 i (by omega)
        rw [show j + 1 + i = j + (i + 1) by omega] at this
        exact this)
    refine ⟨h', fi', ms, ?_, w2⟩
    rw [f_X12_deal_b181, if_neg (nI_nle (by omega) (by omega)), mh_gR_eq (k := 1) ho rfl, Option.bind_some, e1', mh_aI_eq hg (show 104 + 25 * q + 1 + j < 304 by omega) (by omega), Option.bind_some, Option.bind_some, e12, mh_aI_eq hg (show 104 + 25 * q + 13 + j < 304 by omega) (by omega), Option.bind_some, (g3 j hj).1, (g3 j hj).2, mh_nz_eq z0, pk_div (by omega) (by omega) (by omega), eKI, mh_nm_eq, b4]
    unfold f_X12_deal_b253
    rw [mh_gR_eq (k := 36) ho rfl, Option.bind_some, ej, s2, Option.bind_some, mh_nm_eq, mh_nm_eq, mh_nm_eq, mh_nI_mul, pk_sub kl, pk_sub (by omega), mh_dec]
    exact w1
end MhModelD
