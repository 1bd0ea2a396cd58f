theorem mh_fx1_clear {h : mh_H} {a v : Nat} {f : Nat → Int32} {cs : List Nat} (hc : mh_Co h a v f cs) (hav : a ≠ v) : f_X1_clear_e a h = some (mh_up h a (.inr (1, [.ref v, .int (nI 0)]))) ∧ mh_Co (mh_up h a (.inr (1, [.ref v, .int (nI 0)]))) a v f [] := by
  refine ⟨?_, mh_up_eq _ _ _, by rw [mh_up_ne hav.symm]; exact hc.2.1, by simp, fun i hi => absurd hi (by simp)⟩
  unfold f_X1_clear_e
  rw [mh_pI_eq hc.1 (Nat.le_of_ble_eq_true rfl), Option.bind_some]
  rfl
theorem mh_lp_copy {a0 v0 a1 v1 : Nat} {f1 : Nat → Int32} {cs : List Nat} (h1 : a0 ≠ v0) (h2 : a1 ≠ v0) (h3 : v1 ≠ v0) : ∀ (d i n : Nat) (f : Nat → Int32) (h : mh_H), h a0 = some (.inr (1, [.ref v0, .int (nI cs.length)])) → h v0 = some (.inl (0, 12, .inl f)) → mh_Co h a1 v1 f1 cs → cs.length ≤ i + d → d < n → i ≤ 12 →
    ∃ f', f_X1_copy_b10 n a0 a1 (nI i) h = some (mh_up h v0 (.inl (0, 12, .inl f'))) ∧ (∀ j, j < i → f' j = f j) ∧ ∀ j, i ≤ j → j < cs.length → f' j = nI (cs.getD j 0) := by
  intro d
  induction d with
  | zero =>
    intro i n f h g1 g2 hc g3 g4 g5
    have hl := hc.2.2.1
    obtain ⟨n, rfl⟩ : ∃ k, n = k + 1 := ⟨n - 1, by omega⟩
    refine ⟨f, ?_, fun _ _ => rfl, fun j q1 q2 => absurd q2 (by omega)⟩
    rw [f_X1_copy_b10, mh_gI_eq g1 rfl, Option.bind_some, if_pos ((nI_leI (by omega) (by omega)).mpr (by omega)), mh_up_id g2]
    rfl
  | succ d ih =>
    intro i n f h g1 g2 hc g3 g4 g5
    have hl := hc.2.2.1
    obtain ⟨n, rfl⟩ : ∃ k, n = k + 1 := ⟨n - 1, by omega⟩
    by_cases hi : cs.length ≤ i
    · refine ⟨f, ?_, fun _ _ => rfl, fun j q1 q2 => absurd q2 (by omega)⟩
      rw [f_X1_copy_b10, mh_gI_eq g1 rfl, Option.bind_some, if_pos ((nI_leI (by omega) (by omega)).mpr (by omega)), mh_up_id g2]
      rfl
    · have hc' : mh_Co (mh_up h v0 (.inl (0, 12, .inl (upd f i (nI (cs.getD i 0)))))) a1 v1 f1 cs := ⟨by rw [mh_up_ne h2]; exact hc.1, by rw [mh_up_ne h3]; exact hc.2.1, hc.2.2⟩
      obtain ⟨f', e1, e2, e3⟩ := ih (i + 1) n (upd f i (nI (cs.getD i 0))) _ (by rw [mh_up_ne h1]; exact g1) (mh_up_eq _ _ _) hc' (by omega) (by omega) (by omega)
      refine ⟨f', ?_, fun j hj => by rw [e2 j (by omega), pk_un (by omega)], fun j q1 q2 => ?_⟩
      · rw [f_X1_copy_b10, mh_gI_eq g1 rfl, Option.bind_some, if_neg (fun q => hi ((nI_leI (by omega) (by omega)).mp q)), mh_gR_eq g1 rfl, Option.bind_some, mh_cal_eq hc.1, mh_b2_eq (mh_fx1_value hc (by omega)), mh_sI_eq g2 (by omega) (by omega), Option.bind_some]
        show f_X1_copy_b10 n a0 a1 (nI i + Int32.ofInt 1) _ = _
        rw [mh_inc, e1, mh_up_up]
      · by_cases hj : j = i
        · rw [e2 j (by omega), hj, pk_us]
        · exact e3 j (by omega) q2
theorem mh_fx1_copy {h : mh_H} {a0 v0 a1 v1 : Nat} {f0 f1 : Nat → Int32} {c0 cs : List Nat} (h0 : mh_Co h a0 v0 f0 c0) (hc : mh_Co h a1 v1 f1 cs) (h1 : a0 ≠ v0) (h2 : a1 ≠ v0) (h3 : v1 ≠ v0) (h4 : a1 ≠ a0) (h5 : v1 ≠ a0) :
    ∃ f', f_X1_copy_e a0 a1 h = some (mh_up (mh_up h a0 (.inr (1, [.ref v0, .int (nI cs.length)]))) v0 (.inl (0, 12, .inl f'))) ∧ mh_Co (mh_up (mh_up h a0 (.inr (1, [.ref v0, .int (nI cs.length)]))) v0 (.inl (0, 12, .inl f'))) a0 v0 f' cs := by
  have hc' : mh_Co (mh_up h a0 (.inr (1, [.ref v0, .int (nI cs.length)]))) a1 v1 f1 cs := ⟨by rw [mh_up_ne h4]; exact hc.1, by rw [mh_up_ne h5]; exact hc.2.1, hc.2.2⟩
  obtain ⟨f', e1, -, e3⟩ := mh_lp_copy (cs := cs) h1 h2 h3 12 0 mh_fu f0 _ (mh_up_eq _ _ _) (by rw [mh_up_ne h1.symm]; exact h0.2.1) hc' (by have := hc.2.2.1; omega) (mh_fuel 12 (by omega)) (by omega)
  rw [nI_0] at e1
  refine ⟨f', ?_, by rw [mh_up_ne h1, mh_up_eq], mh_up_eq _ _ _, hc.2.2.1, fun i hi => e3 i (by omega) hi⟩
  unfold f_X1_copy_e
  rw [mh_cal_eq hc.1, mh_b2_eq (mh_fx1_count hc), mh_pI_eq h0.1 (Nat.le_of_ble_eq_true rfl), Option.bind_some]
  exact e1
theorem mh_nI_inj {x y : Nat} (hx : x < 2 ^ 31) (hy : y < 2 ^ 31) : nI x = nI y ↔ x = y := nI_eq hx hy
theorem mh_lp_alike {h : mh_H} {a0 v0 a1 v1 : Nat} {f0 f1 : Nat → Int32} {c0 c1 : List Nat} (h0 : mh_Co h a0 v0 f0 c0) (h1 : mh_Co h a1 v1 f1 c1) (hl : c0.length = c1.length) (b0 : ∀ i, c0.getD i 0 < 2 ^ 31) (b1 : ∀ i, c1.getD i 0 < 2 ^ 31) : ∀ (d i n : Nat), c0.length ≤ i + d → d < n → i ≤ 12 →
    f_X1_alike_b15 n a0 a1 (nI i) h = some ((if c0.drop i = c1.drop i then 1 else 0), h) := by
  have hl0 := h0.2.2.1
  intro d
  induction d with
  | zero =>
    intro i n g1 g2 g3
    obtain ⟨n, rfl⟩ : ∃ k, n = k + 1 := ⟨n - 1, by omega⟩
    rw [f_X1_alike_b15, mh_gI_eq h0.1 rfl, Option.bind_some, if_pos ((nI_leI (by omega) (by omega)).mpr (by omega)), if_pos (by rw [List.drop_eq_nil_of_le (by omega), List.drop_eq_nil_of_le (by omega)])]
    rfl
  | succ d ih =>
    intro i n g1 g2 g3
    obtain ⟨n, rfl⟩ : ∃ k, n = k + 1 := ⟨n - 1, by omega⟩
    rw [f_X1_alike_b15, mh_gI_eq h0.1 rfl, Option.bind_some]
    by_cases hi : c0.length ≤ i
    · rw [if_pos ((nI_leI (by omega) (by omega)).mpr hi), if_pos (by rw [List.drop_eq_nil_of_le (by omega), List.drop_eq_nil_of_le (by omega)])]
      rfl
    · rw [if_neg (fun q => hi ((nI_leI (by omega) (by omega)).mp q)), mh_gR_eq h0.1 rfl, Option.bind_some, mh_aI_eq h0.2.1 (by omega) (by omega), Option.bind_some, mh_cal_eq h1.1, mh_b2_eq (mh_fx1_value h1 (by omega)), h0.2.2.2 i (by omega)]
      rw [mh_drop (show i < c0.length by omega), mh_drop (show i < c1.length by omega)]
      by_cases he : c0.getD i 0 = c1.getD i 0
      · rw [if_pos (by rw [he])]
        show f_X1_alike_b15 n a0 a1 (nI i + Int32.ofInt 1) h = _
        rw [mh_inc, ih (i + 1) n (by omega) (by omega) (by omega), he]
        by_cases hq : c0.drop (i + 1) = c1.drop (i + 1)
        · rw [if_pos hq, if_pos (by rw [hq])]
        · rw [if_neg hq, if_neg (fun q => hq (List.cons.inj q).2)]
      · rw [if_neg (fun q => he ((nI_eq (b0 i) (b1 i)).mp q)), if_neg (fun q => he (List.cons.inj q).1)]
        rfl
theorem mh_fx1_alike {h : mh_H} {a0 v0 a1 v1 : Nat} {f0 f1 : Nat → Int32} {c0 c1 : List Nat} (h0 : mh_Co h a0 v0 f0 c0) (h1 : mh_Co h a1 v1 f1 c1) (b0 : ∀ i, c0.getD i 0 < 2 ^ 31) (b1 : ∀ i, c1.getD i 0 < 2 ^ 31) : f_X1_alike_e a0 a1 h = some ((if c0 = c1 then 1 else 0), h) := by
  have hl0 := h0.2.2.1
  have hl1 := h1.2.2.1
  unfold f_X1_alike_e
  rw [mh_gI_eq h0.1 rfl, Option.bind_some, mh_cal_eq h1.1, mh_b2_eq (mh_fx1_count h1)]
  by_cases hl : c0.length = c1.length
  · rw [if_pos (by rw [hl])]
    have e := mh_lp_alike h0 h1 hl b0 b1 12 0 mh_fu (by omega) (mh_fuel 12 (by omega)) (by omega)
    rw [nI_0, List.drop_zero, List.drop_zero] at e
    exact e
  · rw [if_neg (fun q => hl ((nI_eq (by omega) (by omega)).mp q)), if_neg (fun q => hl (by rw [q]))]
    rfl
