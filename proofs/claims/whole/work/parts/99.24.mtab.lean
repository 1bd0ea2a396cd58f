/-! what the first j coins of a purse pay -/
def mh_vj (c n : List Nat) (j s : Nat) (ks : List Nat) : Prop := mh_Sv n j ks ∧ mh_dot (c.take j) ks = s
def mh_Vz (c n : List Nat) (j s v : Nat) : Prop := (v = 536870912 ∧ ∀ ks, ¬ mh_vj c n j s ks) ∨ (v < 536870912 ∧ ∃ ks, mh_vj c n j s ks ∧ ks.sum = v ∧ ∀ l, mh_vj c n j s l → v ≤ l.sum)
theorem mh_vj_sum {c n : List Nat} (hz : mh_pz c n) {j s : Nat} {ks : List Nat} (hj : j ≤ c.length) (h : mh_vj c n j s ks) : ks.sum ≤ 240 := by
  have hb := mh_sum_b ks 20 (fun i hi => Nat.le_trans (h.1.2 i (by rw [h.1.1] at hi; exact hi)) (hz.2.2.1 i))
  have hl := hz.1.1.1
  have : ks.length ≤ 12 := by rw [h.1.1]; omega
  have := Nat.mul_le_mul_right 20 this
  omega
theorem mh_Vz_ex {c n : List Nat} (hz : mh_pz c n) {j : Nat} (hj : j ≤ c.length) (s : Nat) : ∃ v, mh_Vz c n j s v := by
  by_cases h : ∃ ks, mh_vj c n j s ks
  · obtain ⟨ks, hk⟩ := h
    obtain ⟨v, ⟨l, l1, l2⟩, h2⟩ := pk_least (fun v => ∃ ks, mh_vj c n j s ks ∧ ks.sum = v) ⟨ks.sum, ks, hk, rfl⟩
    have := mh_vj_sum hz hj l1
    exact ⟨v, Or.inr ⟨by omega, l, l1, l2, fun l' hl' => Nat.le_of_not_lt (fun q => h2 _ q ⟨l', hl', rfl⟩)⟩⟩
  · exact ⟨536870912, Or.inl ⟨rfl, fun ks hk => h ⟨ks, hk⟩⟩⟩
theorem mh_Vz_u {c n : List Nat} {j s v v' : Nat} (h : mh_Vz c n j s v) (k : mh_Vz c n j s v') : v = v' := by
  rcases h with ⟨a1, a2⟩ | ⟨a1, ks, a2, a3, a4⟩
  · rcases k with ⟨b1, b2⟩ | ⟨b1, l, b2, b3, b4⟩
    · omega
    · exact absurd b2 (a2 l)
  · rcases k with ⟨b1, b2⟩ | ⟨b1, l, b2, b3, b4⟩
    · exact absurd a2 (b2 ks)
    · have := a4 l b2
      have := b4 ks a2
      omega
noncomputable def mh_Wv (c n : List Nat) (j s : Nat) : Nat := @dite _ (∃ v, mh_Vz c n j s v) (Classical.propDecidable _) (fun h => Classical.choose h) (fun _ => 0)
theorem mh_Wv_is {c n : List Nat} {j s v : Nat} (h : mh_Vz c n j s v) : mh_Wv c n j s = v := by
  unfold mh_Wv
  rw [dif_pos ⟨v, h⟩]
  exact mh_Vz_u (Classical.choose_spec (⟨v, h⟩ : ∃ v, mh_Vz c n j s v)) h
theorem mh_Wv_ok {c n : List Nat} (hz : mh_pz c n) {j : Nat} (hj : j ≤ c.length) (s : Nat) : mh_Vz c n j s (mh_Wv c n j s) := by
  obtain ⟨v, hv⟩ := mh_Vz_ex hz hj s
  rw [mh_Wv_is hv]
  exact hv
theorem mh_Wv_le {c n : List Nat} (hz : mh_pz c n) {j : Nat} (hj : j ≤ c.length) (s : Nat) : mh_Wv c n j s ≤ 536870912 := by
  rcases mh_Wv_ok hz hj s with ⟨a, _⟩ | ⟨a, _⟩ <;> omega
theorem mh_vj_s {c n : List Nat} (hz : mh_pz c n) {j s k : Nat} {l : List Nat} (hj : j < c.length) (h : mh_vj c n j s l) (hk : k ≤ n.getD j 0) : mh_vj c n (j + 1) (s + k * c.getD j 0) (l ++ [k]) := by
  refine ⟨mh_Sv_s h.1 hk, ?_⟩
  rw [mh_take_s hj, mh_dot_app _ _ _ _ (by rw [List.length_take, h.1.1]; omega), h.2, Nat.mul_comm]
theorem mh_vj_inv {c n : List Nat} {j s : Nat} {ks : List Nat} (hj : j < c.length) (h : mh_vj c n (j + 1) s ks) : ∃ k l, ks = l ++ [k] ∧ k ≤ n.getD j 0 ∧ k * c.getD j 0 ≤ s ∧ mh_vj c n j (s - k * c.getD j 0) l := by
  obtain ⟨k, l, e, h1, h2⟩ := mh_Sv_inv h.1
  have h3 := h.2
  rw [e, mh_take_s hj, mh_dot_app _ _ _ _ (by rw [List.length_take, h1.1]; omega), Nat.mul_comm] at h3
  exact ⟨k, l, e, h2, by omega, h1, by omega⟩
theorem mh_Vz_0 (c n : List Nat) (s : Nat) : mh_Vz c n 0 s (if s = 0 then 0 else 536870912) := by
  by_cases e : s = 0
  · rw [if_pos e, e]
    exact Or.inr ⟨by omega, [], ⟨⟨rfl, fun j hj => absurd hj (Nat.not_lt_zero j)⟩, rfl⟩, rfl, fun l _ => Nat.zero_le _⟩
  · rw [if_neg e]
    refine Or.inl ⟨rfl, fun ks h => e ?_⟩
    rw [← h.2]
    rfl
/-- the least over how many of the next coin are taken -/
def mh_Vp (c n : List Nat) (j s K v : Nat) : Prop := v ≤ 536870912 ∧ (∀ k, k < K → k * c.getD j 0 ≤ s → v ≤ mh_Wv c n j (s - k * c.getD j 0) + k) ∧ (v = 536870912 ∨ ∃ k, k < K ∧ k * c.getD j 0 ≤ s ∧ v = mh_Wv c n j (s - k * c.getD j 0) + k)
theorem mh_Vp_end {c n : List Nat} (hz : mh_pz c n) {j s K v : Nat} (hj : j < c.length) (h : mh_Vp c n j s K v) (h1 : K ≤ n.getD j 0 + 1) (h2 : ∀ k, K ≤ k → k ≤ n.getD j 0 → s < k * c.getD j 0) : mh_Vz c n (j + 1) s v := by
  obtain ⟨a1, a2, a3⟩ := h
  have ok := fun t => mh_Wv_ok hz (show j ≤ c.length by omega) t
  have low : ∀ ks, mh_vj c n (j + 1) s ks → v ≤ ks.sum := fun ks hks => by
    obtain ⟨k, l, e, b1, b2, b3⟩ := mh_vj_inv hj hks
    have kK : k < K := Nat.lt_of_not_le (fun q => by have := h2 k q b1; omega)
    have := a2 k kK b2
    rcases ok (s - k * c.getD j 0) with ⟨c1, c2⟩ | ⟨c1, l', c2, c3, c4⟩
    · exact absurd b3 (c2 l)
    · have := c4 l b3
      rw [e, mh_sum_app]
      omega
  by_cases ex : ∃ ks, mh_vj c n (j + 1) s ks
  · obtain ⟨ks, hks⟩ := ex
    have l1 := low ks hks
    have l2 := mh_vj_sum hz (show j + 1 ≤ c.length by omega) hks
    refine Or.inr ⟨by omega, ?_⟩
    rcases a3 with q | ⟨k, k1, k2, k3⟩
    · omega
    · rcases ok (s - k * c.getD j 0) with ⟨c1, c2⟩ | ⟨c1, l', c2, c3, c4⟩
      · omega
      · have := mh_vj_s hz hj c2 (show k ≤ n.getD j 0 by omega)
        rw [Nat.sub_add_cancel k2] at this
        exact ⟨_, this, by rw [mh_sum_app]; omega, low⟩
  · refine Or.inl ⟨?_, fun ks hks => ex ⟨ks, hks⟩⟩
    rcases a3 with q | ⟨k, k1, k2, k3⟩
    · exact q
    · rcases ok (s - k * c.getD j 0) with ⟨c1, c2⟩ | ⟨c1, l', c2, c3, c4⟩
      · omega
      · have := mh_vj_s hz hj c2 (show k ≤ n.getD j 0 by omega)
        rw [Nat.sub_add_cancel k2] at this
        exact absurd ⟨_, this⟩ ex
theorem mh_Vz_far {c n : List Nat} (hz : mh_pz c n) {j s : Nat} (hj : j ≤ c.length) (hs : mh_dot (c.take j) (n.take j) < s) : mh_Vz c n j s 536870912 := by
  refine Or.inl ⟨rfl, fun ks h => ?_⟩
  have := mh_Sv_dot hz.2.1 j ks hj h.1
  have := h.2
  omega
/-- the reference's table of a purse -/
def mh_Fb (h : mh_H) (bd : Nat → Nat) (w : Nat) (c n : List Nat) : Prop := ∃ G, mh_Oi h (bd w) (fun j => bd (w + 1 + j)) 13 ∧ mh_Ri h (fun j => bd (w + 1 + j)) 13 20001 G ∧ ∀ j, j ≤ c.length → ∀ s, s ≤ 20000 → G j s = nI (mh_Wv c n j s)
section MhModelTb
variable {h : mh_H} {bd : Nat → Nat} {σ : mh_Sg} {F : Nat → Int32}
theorem mh_r_ft0 {w : Nat} {x3 : Int32} {c n : List Nat} {g0 : Nat → Int32} (hI : mh_Inj bd 99) (hw : w = 65 ∨ w = 79) (hO : mh_Oi h (bd w) (fun j => bd (w + 1 + j)) 13) (h0 : h (bd (w + 1)) = some (.inl (0, 20001, .inl g0))) : ∃ h' g, f_X12_fillTable_b8 mh_fu (bd 0) (bd w) x3 0 h = f_X12_fillTable_b39 (bd 0) (bd w) x3 h' ∧ h' (bd (w + 1)) = some (.inl (0, 20001, .inl g)) ∧ mh_fr [bd (w + 1)] h h' ∧ ∀ s, s ≤ 20000 → g s = nI (mh_Wv c n 0 s) := by
  have wb : w + 1 < 99 := by omega
  have key := mh_wh (fun m (q : Nat × mh_H) => f_X12_fillTable_b8 m (bd 0) (bd w) x3 (nI q.1) q.2) (fun (r : mh_H) => f_X12_fillTable_b39 (bd 0) (bd w) x3 r) (fun q => q.1 ≤ 20001 ∧ mh_fr [bd (w + 1)] h q.2 ∧ ∃ g, q.2 (bd (w + 1)) = some (.inl (0, 20001, .inl g)) ∧ ∀ s, s < q.1 → g s = nI (mh_Wv c n 0 s)) (fun q => 20001 - q.1) (fun r => mh_fr [bd (w + 1)] h r ∧ ∃ g, r (bd (w + 1)) = some (.inl (0, 20001, .inl g)) ∧ ∀ s, s ≤ 20000 → g s = nI (mh_Wv c n 0 s))
    (fun m q hq => by
      obtain ⟨s, hh⟩ := q
      obtain ⟨q1, q2, g, q3, q4⟩ := hq
      have q1 : s ≤ 20001 := q1
      have q2 : mh_fr [bd (w + 1)] h hh := q2
      have q3 : hh (bd (w + 1)) = some (.inl (0, 20001, .inl g)) := q3
      have q4 : ∀ t, t < s → g t = nI (mh_Wv c n 0 t) := q4
      show (∃ s', _ ∧ _ ∧ f_X12_fillTable_b8 (m + 1) (bd 0) (bd w) x3 (nI s) hh = _) ∨ ∃ r, _ ∧ f_X12_fillTable_b8 (m + 1) (bd 0) (bd w) x3 (nI s) hh = _
      have hO' : mh_Oi hh (bd w) (fun j => bd (w + 1 + j)) 13 := (q2 _ (by simp [hI.ne (show w < 99 by omega) wb (by omega)])).trans hO
      rw [f_X12_fillTable_b8]
      by_cases c1 : s ≤ 20000
      · left
        have fin : ∀ v, v = nI (if s = 0 then 0 else 536870912) → ∃ s' : Nat × mh_H, (s'.1 ≤ 20001 ∧ mh_fr [bd (w + 1)] h s'.2 ∧ ∃ g, s'.2 (bd (w + 1)) = some (.inl (0, 20001, .inl g)) ∧ ∀ t, t < s'.1 → g t = nI (mh_Wv c n 0 t)) ∧ 20001 - s'.1 < 20001 - s ∧ f_X12_fillTable_b32 (f_X12_fillTable_b8 m) (bd 0) (bd w) x3 (nI s) (bd (w + 1)) (nI s) v hh = f_X12_fillTable_b8 m (bd 0) (bd w) x3 (nI s'.1) s'.2 := fun v hv => by
          refine ⟨(s + 1, mh_up hh (bd (w + 1)) (.inl (0, 20001, .inl (upd g s v)))), ⟨by show s + 1 ≤ 20001; omega, q2.trans (mh_fr.up List.mem_cons_self), _, mh_up_eq _ _ _, fun t ht => ?_⟩, by show 20001 - (s + 1) < 20001 - s; omega, ?_⟩
          · have ht : t < s + 1 := ht
            by_cases e : t = s
            · rw [e, pk_us, hv, mh_Wv_is (mh_Vz_0 c n s)]
            · rw [pk_un e]; exact q4 t (by omega)
          · unfold f_X12_fillTable_b32
            rw [mh_sI_eq q3 (by omega) (by omega), Option.bind_some, mh_nm_eq, mh_inc]
        have a0 : mh_aR hh (bd w) 5 (0 : Int32) = some (bd (w + 1)) := mh_aR_eq (j := 0) hO' (by omega) (by omega) rfl
        rw [if_neg (fun q => absurd ((mh_lel (a := 20001) 20001 rfl (by omega) (by omega)).mp q) (by omega)), a0, Option.bind_some]
        by_cases e : s = 0
        · rw [if_pos ((mh_eqr (b := 0) 0 rfl (by omega) (by omega)).mpr e)]
          exact fin _ (by rw [if_pos e]; rfl)
        · rw [if_neg (fun q => e ((mh_eqr (b := 0) 0 rfl (by omega) (by omega)).mp q))]
          exact fin _ (by rw [if_neg e]; rfl)
      · right
        exact ⟨hh, ⟨q2, g, q3, fun s hs => q4 s (by omega)⟩, by rw [if_pos ((mh_lel (a := 20001) 20001 rfl (by omega) (by omega)).mpr (by omega))]⟩)
    20001 mh_fu (0, h) (by show 20001 - 0 ≤ 20001; omega) ⟨Nat.zero_le _, mh_fr.rfl, g0, h0, fun i hi => absurd hi (Nat.not_lt_zero i)⟩ (mh_fuel _ (by omega))
  obtain ⟨h', ⟨z1, g, z2, z3⟩, z4⟩ := key
  exact ⟨h', g, z4, z2, z1, z3⟩
/-- a row of never -/
theorem mh_r_ft1 (k45 : Nat → Nat → Int32 → Int32 → Int32 → mh_H → Option mh_H) {w j : Nat} {x3 x4 x6 x7 : Int32} {g0 : Nat → Int32} (hI : mh_Inj bd 99) (hw : w = 65 ∨ w = 79) (hj : j < 13) (hO : mh_Oi h (bd w) (fun j => bd (w + 1 + j)) 13) (h0 : h (bd (w + 1 + j)) = some (.inl (0, 20001, .inl g0))) : ∃ h' g, f_X12_fillTable_b94 k45 mh_fu (bd 0) (bd w) x3 x4 (nI j) x6 x7 0 h = f_X12_fillTable_b117 k45 (bd 0) (bd w) x3 x4 (nI j) x6 x7 h' ∧ h' (bd (w + 1 + j)) = some (.inl (0, 20001, .inl g)) ∧ mh_fr [bd (w + 1 + j)] h h' ∧ ∀ s, s ≤ 20000 → g s = nI 536870912 := by
  have wb : w + 1 + j < 99 := by omega
  have key := mh_wh (fun m (q : Nat × mh_H) => f_X12_fillTable_b94 k45 m (bd 0) (bd w) x3 x4 (nI j) x6 x7 (nI q.1) q.2) (fun (r : mh_H) => f_X12_fillTable_b117 k45 (bd 0) (bd w) x3 x4 (nI j) x6 x7 r) (fun q => q.1 ≤ 20001 ∧ mh_fr [bd (w + 1 + j)] h q.2 ∧ ∃ g, q.2 (bd (w + 1 + j)) = some (.inl (0, 20001, .inl g)) ∧ ∀ s, s < q.1 → g s = nI 536870912) (fun q => 20001 - q.1) (fun r => mh_fr [bd (w + 1 + j)] h r ∧ ∃ g, r (bd (w + 1 + j)) = some (.inl (0, 20001, .inl g)) ∧ ∀ s, s ≤ 20000 → g s = nI 536870912)
    (fun m q hq => by
      obtain ⟨s, hh⟩ := q
      obtain ⟨q1, q2, g, q3, q4⟩ := hq
      have q1 : s ≤ 20001 := q1
      have q2 : mh_fr [bd (w + 1 + j)] h hh := q2
      have q3 : hh (bd (w + 1 + j)) = some (.inl (0, 20001, .inl g)) := q3
      have q4 : ∀ t, t < s → g t = nI 536870912 := q4
      show (∃ s', _ ∧ _ ∧ f_X12_fillTable_b94 k45 (m + 1) (bd 0) (bd w) x3 x4 (nI j) x6 x7 (nI s) hh = _) ∨ ∃ r, _ ∧ f_X12_fillTable_b94 k45 (m + 1) (bd 0) (bd w) x3 x4 (nI j) x6 x7 (nI s) hh = _
      have hO' : mh_Oi hh (bd w) (fun j => bd (w + 1 + j)) 13 := (q2 _ (by simp [hI.ne (show w < 99 by omega) wb (by omega)])).trans hO
      rw [f_X12_fillTable_b94]
      by_cases c1 : s ≤ 20000
      · left
        refine ⟨(s + 1, mh_up hh (bd (w + 1 + j)) (.inl (0, 20001, .inl (upd g s (nI 536870912))))), ⟨by show s + 1 ≤ 20001; omega, q2.trans (mh_fr.up List.mem_cons_self), _, mh_up_eq _ _ _, fun t ht => ?_⟩, by show 20001 - (s + 1) < 20001 - s; omega, ?_⟩
        · have ht : t < s + 1 := ht
          by_cases e : t = s
          · rw [e, pk_us]
          · rw [pk_un e]; exact q4 t (by omega)
        · have s1 : mh_sI hh (bd (w + 1 + j)) (nI s) (536870912 : Int32) = some (mh_up hh (bd (w + 1 + j)) (.inl (0, 20001, .inl (upd g s (nI 536870912))))) := mh_sI_eq q3 (by omega) (by omega)
          rw [if_neg (fun q => absurd ((mh_lel (a := 20001) 20001 rfl (by omega) (by omega)).mp q) (by omega)), mh_aR_eq hO' hj (by omega) rfl, Option.bind_some, s1, Option.bind_some, mh_nm_eq, mh_inc]
      · right
        exact ⟨hh, ⟨q2, g, q3, fun s hs => q4 s (by omega)⟩, by rw [if_pos ((mh_lel (a := 20001) 20001 rfl (by omega) (by omega)).mpr (by omega))]⟩)
    20001 mh_fu (0, h) (by show 20001 - 0 ≤ 20001; omega) ⟨Nat.zero_le _, mh_fr.rfl, g0, h0, fun i hi => absurd hi (Nat.not_lt_zero i)⟩ (mh_fuel _ (by omega))
  obtain ⟨h', ⟨z1, g, z2, z3⟩, z4⟩ := key
  exact ⟨h', g, z4, z2, z1, z3⟩
/-- one number of a row -/
theorem mh_r_ft2 (k120 : Nat → Nat → Int32 → Int32 → Int32 → Int32 → Int32 → Int32 → mh_H → Option mh_H) {w j s : Nat} {x3 x4 : Int32} {c n : List Nat} {g0 g1 : Nat → Int32} (hI : mh_Inj bd 99) (hw : w = 65 ∨ w = 79) (hz : mh_pz c n) (hj : j < c.length) (hs : s ≤ 20000) (hO : mh_Oi h (bd w) (fun j => bd (w + 1 + j)) 13) (h0 : h (bd (w + 1 + j)) = some (.inl (0, 20001, .inl g0))) (hv : ∀ t, t ≤ 20000 → g0 t = nI (mh_Wv c n j t)) (h1 : h (bd (w + 1 + (j + 1))) = some (.inl (0, 20001, .inl g1))) (hs1 : g1 s = nI 536870912) : ∃ h', f_X12_fillTable_b130 k120 mh_fu (bd 0) (bd w) x3 x4 (nI (j + 1)) (nI (c.getD j 0)) (nI (n.getD j 0)) (nI s) 0 h = f_X12_fillTable_b188 k120 (bd 0) (bd w) x3 x4 (nI (j + 1)) (nI (c.getD j 0)) (nI (n.getD j 0)) (nI s) h' ∧ h' (bd (w + 1 + (j + 1))) = some (.inl (0, 20001, .inl (upd g1 s (nI (mh_Wv c n (j + 1) s))))) ∧ mh_fr [bd (w + 1 + (j + 1))] h h' := by
  have hl := hz.1.1.1
  have cb := hz.1.1.get hj
  have nb := hz.2.2.1 j
  have key := mh_wh (fun m (q : (Nat × Nat) × mh_H) => f_X12_fillTable_b130 k120 m (bd 0) (bd w) x3 x4 (nI (j + 1)) (nI (c.getD j 0)) (nI (n.getD j 0)) (nI s) (nI q.1.1) q.2) (fun (r : mh_H) => f_X12_fillTable_b188 k120 (bd 0) (bd w) x3 x4 (nI (j + 1)) (nI (c.getD j 0)) (nI (n.getD j 0)) (nI s) r) (fun q => q.1.1 ≤ n.getD j 0 + 1 ∧ mh_Vp c n j s q.1.1 q.1.2 ∧ q.2 (bd (w + 1 + (j + 1))) = some (.inl (0, 20001, .inl (upd g1 s (nI q.1.2)))) ∧ mh_fr [bd (w + 1 + (j + 1))] h q.2) (fun q => n.getD j 0 + 1 - q.1.1) (fun r => r (bd (w + 1 + (j + 1))) = some (.inl (0, 20001, .inl (upd g1 s (nI (mh_Wv c n (j + 1) s))))) ∧ mh_fr [bd (w + 1 + (j + 1))] h r)
    (fun m q hq => by
      obtain ⟨⟨k, v⟩, hh⟩ := q
      obtain ⟨q1, q2, q3, q4⟩ := hq
      have q1 : k ≤ n.getD j 0 + 1 := q1
      have q2 : mh_Vp c n j s k v := q2
      have q3 : hh (bd (w + 1 + (j + 1))) = some (.inl (0, 20001, .inl (upd g1 s (nI v)))) := q3
      have q4 : mh_fr [bd (w + 1 + (j + 1))] h hh := q4
      show (∃ s', _ ∧ _ ∧ f_X12_fillTable_b130 k120 (m + 1) (bd 0) (bd w) x3 x4 (nI (j + 1)) (nI (c.getD j 0)) (nI (n.getD j 0)) (nI s) (nI k) hh = _) ∨ ∃ r, _ ∧ f_X12_fillTable_b130 k120 (m + 1) (bd 0) (bd w) x3 x4 (nI (j + 1)) (nI (c.getD j 0)) (nI (n.getD j 0)) (nI s) (nI k) hh = _
      have kc := Nat.mul_le_mul (show k ≤ 21 by omega) cb.2
      obtain ⟨b1, b2, b3⟩ := id q2
      have hO' : mh_Oi hh (bd w) (fun j => bd (w + 1 + j)) 13 := (q4 _ (by simp [hI.ne (show w < 99 by omega) (show w + 1 + (j + 1) < 99 by omega) (by omega)])).trans hO
      have h0' := (q4 _ (by simp [hI.ne (show w + 1 + j < 99 by omega) (show w + 1 + (j + 1) < 99 by omega) (by omega)])).trans h0
      rw [f_X12_fillTable_b130]
      by_cases c1 : n.getD j 0 < k
      · right
        exact ⟨hh, ⟨by rw [mh_Wv_is (mh_Vp_end hz hj q2 q1 (fun k' h1 h2 => by omega))]; exact q3, q4⟩, by rw [if_pos ((nI_ltI (by omega) (by omega)).mpr c1)]⟩
      · rw [if_neg (fun q => c1 ((nI_ltI (by omega) (by omega)).mp q)), mh_nI_mul]
        by_cases c2 : s < k * c.getD j 0
        · right
          exact ⟨hh, ⟨by rw [mh_Wv_is (mh_Vp_end hz hj q2 q1 (fun k' h1 h2 => Nat.lt_of_lt_of_le c2 (Nat.mul_le_mul_right _ h1)))]; exact q3, q4⟩, by rw [if_pos ((nI_ltI (by omega) (by omega)).mpr c2)]⟩
        · left
          have wl := mh_Wv_le hz (show j ≤ c.length by omega) (s - k * c.getD j 0)
          have e1 : nI (j + 1) - (1 : Int32) = nI j := pk_sub (b := 1) (by omega)
          obtain ⟨v', ev'⟩ : ∃ v', v' = if mh_Wv c n j (s - k * c.getD j 0) + k < v then mh_Wv c n j (s - k * c.getD j 0) + k else v := ⟨_, rfl⟩
          have e2 : (if nI (mh_Wv c n j (s - k * c.getD j 0) + k) < nI v then nI (mh_Wv c n j (s - k * c.getD j 0) + k) else nI v) = nI v' := by
            rw [ev']
            by_cases q : mh_Wv c n j (s - k * c.getD j 0) + k < v
            · rw [if_pos q, if_pos ((nI_ltI (by omega) (by omega)).mpr q)]
            · rw [if_neg q, if_neg (fun z => q ((nI_ltI (by omega) (by omega)).mp z))]
          have V' : mh_Vp c n j s (k + 1) v' := by
            by_cases q : mh_Wv c n j (s - k * c.getD j 0) + k < v
            · rw [if_pos q] at ev'
              refine ⟨by omega, fun k' h1 h2 => ?_, Or.inr ⟨k, by omega, by omega, ev'⟩⟩
              by_cases e : k' = k
              · rw [e]; omega
              · have := b2 k' (by omega) h2; omega
            · rw [if_neg q] at ev'
              refine ⟨by omega, fun k' h1 h2 => ?_, ?_⟩
              · by_cases e : k' = k
                · rw [e]; omega
                · have := b2 k' (by omega) h2; omega
              · rcases b3 with z | ⟨k', z1, z2, z3⟩
                · exact Or.inl (by omega)
                · exact Or.inr ⟨k', by omega, z2, by omega⟩
          refine ⟨((k + 1, v'), mh_up hh (bd (w + 1 + (j + 1))) (.inl (0, 20001, .inl (upd (upd g1 s (nI v)) s (nI v'))))), ⟨by show k + 1 ≤ n.getD j 0 + 1; omega, V', ?_, q4.trans (mh_fr.up List.mem_cons_self)⟩, by show n.getD j 0 + 1 - (k + 1) < n.getD j 0 + 1 - k; omega, ?_⟩
          · show mh_up hh (bd (w + 1 + (j + 1))) _ (bd (w + 1 + (j + 1))) = some (.inl (0, 20001, .inl (upd g1 s (nI v'))))
            rw [mh_up_eq]
            congr 5
            funext t
            by_cases e : t = s
            · rw [e, pk_us, pk_us]
            · rw [pk_un e, pk_un e, pk_un e]
          · have a1 : mh_aR hh (bd w) 5 (nI (j + 1)) = some (bd (w + 1 + (j + 1))) := mh_aR_eq hO' (show j + 1 < 13 by omega) (by omega) rfl
            have a0 : mh_aR hh (bd w) 5 (nI j) = some (bd (w + 1 + j)) := mh_aR_eq hO' (show j < 13 by omega) (by omega) rfl
            rw [if_neg (fun q => c2 ((nI_ltI (by omega) (by omega)).mp q)), a1, Option.bind_some, Option.bind_some, mh_aI_eq q3 (show s < 20001 by omega) (by omega), Option.bind_some, e1, a0, Option.bind_some, pk_sub (by omega), mh_aI_eq h0' (show s - k * c.getD j 0 < 20001 by omega) (by omega), Option.bind_some, hv _ (by omega), nI_add, pk_us, e2, mh_sI_eq q3 (by omega) (by omega), Option.bind_some, mh_nm_eq, mh_inc])
    22 mh_fu ((0, 536870912), h) (by show n.getD j 0 + 1 - 0 ≤ 22; omega) ⟨Nat.zero_le _, ⟨Nat.le_refl _, fun k hk => absurd hk (Nat.not_lt_zero k), Or.inl rfl⟩, by
      show h (bd (w + 1 + (j + 1))) = some (.inl (0, 20001, .inl (upd g1 s (nI 536870912))))
      rw [h1]
      congr 5
      funext t
      by_cases e : t = s
      · rw [e, pk_us]; exact hs1
      · rw [pk_un e], mh_fr.rfl⟩ (mh_fuel _ (by omega))
  obtain ⟨h', ⟨z1, z2⟩, z3⟩ := key
  exact ⟨h', z3, z1, z2⟩
end MhModelTb
