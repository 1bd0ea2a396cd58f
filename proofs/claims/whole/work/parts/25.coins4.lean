/-- the greatest common divisor, as the loops have it -/
def mh_gd (cs : List Nat) (d : Nat) : Nat := cs.foldl (fun d c => Nat.gcd c d) d
theorem mh_lp_cd {h : mh_H} {a v : Nat} {f : Nat → Int32} {cs : List Nat} (hc : mh_Co h a v f cs) (hb : ∀ i, cs.getD i 0 ≤ 300) : ∀ (d i n x : Nat), cs.length ≤ i + d → d < n → i ≤ 12 → x ≤ 300 →
    f_X1_commonDivisor_b4 n a (nI x) (nI i) h = some (nI (mh_gd (cs.drop i) x), h) := by
  have hl := hc.2.2.1
  intro d
  induction d with
  | zero =>
    intro i n x h1 h2 h3 h4
    obtain ⟨n, rfl⟩ : ∃ k, n = k + 1 := ⟨n - 1, by omega⟩
    rw [f_X1_commonDivisor_b4, mh_gI_eq hc.1 rfl, Option.bind_some, if_pos ((nI_leI (by omega) (by omega)).mpr (by omega)), List.drop_eq_nil_of_le (by omega)]
    rfl
  | succ d ih =>
    intro i n x h1 h2 h3 h4
    obtain ⟨n, rfl⟩ : ∃ k, n = k + 1 := ⟨n - 1, by omega⟩
    rw [f_X1_commonDivisor_b4, mh_gI_eq hc.1 rfl, Option.bind_some]
    by_cases hi : cs.length ≤ i
    · rw [if_pos ((nI_leI (by omega) (by omega)).mpr hi), List.drop_eq_nil_of_le (by omega)]
      rfl
    · have hbi := hb i
      rw [if_neg (fun q => hi ((nI_leI (by omega) (by omega)).mp q)), mh_gR_eq hc.1 rfl, Option.bind_some, mh_aI_eq hc.2.1 (by omega) (by omega), Option.bind_some, hc.2.2.2 i (by omega), mh_b2_eq (mh_fx11_gcd h (by omega) (by omega))]
      show f_X1_commonDivisor_b4 n a _ (nI i + Int32.ofInt 1) h = _
      have hg : Nat.gcd (cs.getD i 0) x ≤ 300 := by
        by_cases h0 : cs.getD i 0 = 0
        · rw [h0, Nat.gcd_zero_left]
          exact h4
        · exact Nat.le_trans (Nat.gcd_le_left _ (by omega)) hbi
      rw [mh_inc, ih (i + 1) n _ (by omega) (by omega) (by omega) hg, mh_drop (show i < cs.length by omega)]
      rfl
theorem mh_fx1_commonDivisor {h : mh_H} {a v : Nat} {f : Nat → Int32} {cs : List Nat} (hc : mh_Co h a v f cs) (hb : ∀ i, cs.getD i 0 ≤ 300) : f_X1_commonDivisor_e a h = some (nI (mh_gd cs 0), h) := by
  have hl := hc.2.2.1
  have e := mh_lp_cd hc hb 12 0 mh_fu 0 (by omega) (mh_fuel 12 (by omega)) (by omega) (by omega)
  rw [nI_0, List.drop_zero] at e
  exact e
/-! remove -/
theorem mh_lp_rem {a v : Nat} (hav : a ≠ v) (len : Nat) (hl : len ≤ 12) : ∀ (d i n : Nat) (f : Nat → Int32) (h : mh_H), h a = some (.inr (1, [.ref v, .int (nI (len + 1))])) → h v = some (.inl (0, 12, .inl f)) → len ≤ 11 → len ≤ i + d → d < n → i ≤ 12 →
    ∃ f', f_X1_remove_b15 n a (nI i) h = f_X1_remove_b45 a (mh_up h v (.inl (0, 12, .inl f'))) ∧ (∀ j, j < i → f' j = f j) ∧ ∀ j, i ≤ j → j < len → f' j = f (j + 1) := by
  intro d
  induction d with
  | zero =>
    intro i n f h g1 g2 g0 g3 g4 g5
    obtain ⟨n, rfl⟩ : ∃ k, n = k + 1 := ⟨n - 1, by omega⟩
    refine ⟨f, ?_, fun _ _ => rfl, fun j q1 q2 => absurd q2 (by omega)⟩
    rw [f_X1_remove_b15, mh_gI_eq g1 rfl, Option.bind_some, nI_pred, if_pos ((nI_leI (by omega) (by omega)).mpr (by omega)), mh_up_id g2]
  | succ d ih =>
    intro i n f h g1 g2 g0 g3 g4 g5
    obtain ⟨n, rfl⟩ : ∃ k, n = k + 1 := ⟨n - 1, by omega⟩
    by_cases hi : len ≤ i
    · refine ⟨f, ?_, fun _ _ => rfl, fun j q1 q2 => absurd q2 (by omega)⟩
      rw [f_X1_remove_b15, mh_gI_eq g1 rfl, Option.bind_some, nI_pred, if_pos ((nI_leI (by omega) (by omega)).mpr (by omega)), mh_up_id g2]
    · obtain ⟨f', e1, e2, e3⟩ := ih (i + 1) n (upd f i (f (i + 1))) (mh_up h v (.inl (0, 12, .inl (upd f i (f (i + 1)))))) (by rw [mh_up_ne hav]; exact g1) (mh_up_eq _ _ _) g0 (by omega) (by omega) (by omega)
      refine ⟨f', ?_, fun j hj => by rw [e2 j (by omega), pk_un (by omega)], fun j q1 q2 => ?_⟩
      · rw [f_X1_remove_b15, mh_gI_eq g1 rfl, Option.bind_some, nI_pred, if_neg (fun q => hi ((nI_leI (by omega) (by omega)).mp q)), mh_gR_eq g1 rfl, Option.bind_some, Option.bind_some, nI_1, mh_aI_eq g2 (by omega) (by omega), Option.bind_some, mh_sI_eq g2 (by omega) (by omega), Option.bind_some]
        show f_X1_remove_b15 n a (nI i + Int32.ofInt 1) _ = _
        rw [mh_inc, e1, mh_up_up]
      · by_cases hj : j = i
        · rw [e2 j (by omega), hj, pk_us]
        · rw [e3 j (by omega) q2, pk_un (by omega)]
theorem mh_del_get (cs : List Nat) (p i : Nat) : (cs.eraseIdx p).getD i 0 = if i < p then cs.getD i 0 else cs.getD (i + 1) 0 := by
  simp only [List.getD_eq_getElem?_getD, List.getElem?_eraseIdx]
  by_cases h1 : i < p
  · rw [if_pos h1, if_pos h1]
  · rw [if_neg h1, if_neg h1]
theorem mh_fx1_remove {h : mh_H} {a v : Nat} {f : Nat → Int32} {cs : List Nat} (hc : mh_Co h a v f cs) (hav : a ≠ v) (x : Int32) (hh : mh_hd cs x = true) :
    ∃ h' f', f_X1_remove_e a x h = some h' ∧ mh_Co h' a v f' (cs.eraseIdx (mh_pf cs x)) ∧ ∀ b, b ≠ a → b ≠ v → h' b = h b := by
  have hl := hc.2.2.1
  have hp : mh_pf cs x < cs.length := by
    simp only [mh_hd, decide_eq_true_eq] at hh
    exact hh.1
  obtain ⟨len, hlen⟩ : ∃ len, cs.length = len + 1 := ⟨cs.length - 1, by omega⟩
  have e0 : f_X1_holds_e a x h = some (1, h) := by rw [mh_fx1_holds hc, hh]; rfl
  obtain ⟨f', e1, e2, e3⟩ := mh_lp_rem hav len (by omega) 12 (mh_pf cs x) mh_fu f h (by rw [hc.1, hlen]) hc.2.1 (by omega) (by omega) (mh_fuel 12 (by omega)) (by omega)
  refine ⟨mh_up (mh_up h v (.inl (0, 12, .inl f'))) a (.inr (1, [.ref v, .int (nI len)])), f', ?_, ?_, ?_⟩
  · unfold f_X1_remove_e
    rw [mh_cal_eq hc.1, mh_b2_eq e0, if_neg (by decide), mh_cal_eq hc.1, mh_b2_eq (mh_fx1_placeFor hc x), e1]
    unfold f_X1_remove_b45
    rw [mh_gI_eq (h := mh_up h v _) (by rw [mh_up_ne hav]; exact hc.1) rfl, Option.bind_some, mh_pI_eq (h := mh_up h v _) (by rw [mh_up_ne hav]; exact hc.1) (Nat.le_of_ble_eq_true rfl), Option.bind_some, hlen, nI_pred]
    rfl
  · have hle : (cs.eraseIdx (mh_pf cs x)).length = len := by rw [List.length_eraseIdx_of_lt hp]; omega
    refine ⟨by rw [hle, mh_up_eq], by rw [mh_up_ne hav.symm, mh_up_eq], by omega, fun i hi => ?_⟩
    rw [hle] at hi
    rw [mh_del_get]
    by_cases h1 : i < mh_pf cs x
    · rw [if_pos h1, e2 i h1, hc.2.2.2 i (by omega)]
    · rw [if_neg h1, e3 i (by omega) hi, hc.2.2.2 (i + 1) (by omega)]
  · intro b h1 h2
    rw [mh_up_ne h1, mh_up_ne h2]
