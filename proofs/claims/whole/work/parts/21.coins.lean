theorem mh_drop {cs : List Nat} {i : Nat} (hi : i < cs.length) : cs.drop i = cs.getD i 0 :: cs.drop (i + 1) := by
  rw [List.drop_eq_getElem_cons hi, List.getD_eq_getElem?_getD, List.getElem?_eq_getElem hi]
  rfl
theorem mh_inc (i : Nat) : nI i + Int32.ofInt 1 = nI (i + 1) := by
  rw [nI_succ]
  rfl
theorem mh_fuel (k : Nat) (h : k < 8589934592) : k < mh_fu := h
section MhCoins
variable {h : mh_H} {a v : Nat} {f : Nat → Int32} {cs : List Nat}
theorem mh_lp_pf (hc : mh_Co h a v f cs) (x : Int32) : ∀ (d i n : Nat), cs.length ≤ i + d → d < n → i ≤ 12 → f_X1_placeFor_b2 n a x (nI i) h = some (nI (i + ((cs.drop i).takeWhile (fun c => decide (nI c < x))).length), h) := by
  have hl := hc.2.2.1
  intro d
  induction d with
  | zero =>
    intro i n h1 h2 h3
    obtain ⟨n, rfl⟩ : ∃ k, n = k + 1 := ⟨n - 1, by omega⟩
    rw [f_X1_placeFor_b2, mh_gI_eq hc.1 rfl, Option.bind_some, if_pos ((nI_leI (by omega) (by omega)).mpr (by omega))]
    unfold f_X1_placeFor_b26
    rw [List.drop_eq_nil_of_le (by omega)]
    rfl
  | succ d ih =>
    intro i n h1 h2 h3
    obtain ⟨n, rfl⟩ : ∃ k, n = k + 1 := ⟨n - 1, by omega⟩
    rw [f_X1_placeFor_b2, mh_gI_eq hc.1 rfl, Option.bind_some]
    by_cases hi : cs.length ≤ i
    · rw [if_pos ((nI_leI (by omega) (by omega)).mpr hi)]
      unfold f_X1_placeFor_b26
      rw [List.drop_eq_nil_of_le (by omega)]
      rfl
    · rw [if_neg (fun q => hi ((nI_leI (by omega) (by omega)).mp q)), mh_gR_eq hc.1 rfl, Option.bind_some, mh_aI_eq hc.2.1 (by omega) (by omega), Option.bind_some, hc.2.2.2 i (by omega)]
      rw [mh_drop (show i < cs.length by omega), List.takeWhile_cons]
      by_cases hx : x ≤ nI (cs.getD i 0)
      · rw [if_pos hx, if_neg (by simpa using hx)]
        rfl
      · rw [if_neg hx, if_pos (by simpa using hx)]
        show f_X1_placeFor_b2 n a x (nI i + Int32.ofInt 1) h = _
        rw [mh_inc, ih (i + 1) n (by omega) (by omega) (by omega), List.length_cons, Nat.add_assoc, Nat.add_comm 1]
theorem mh_fx1_placeFor (hc : mh_Co h a v f cs) (x : Int32) : f_X1_placeFor_e a x h = some (nI (mh_pf cs x), h) := by
  have hl := hc.2.2.1
  have e := mh_lp_pf hc x 12 0 mh_fu (by omega) (mh_fuel 12 (by omega)) (by omega)
  rw [nI_0, List.drop_zero, Nat.zero_add] at e
  exact e
/-- a value that the coins hold, as an int -/
def mh_hd (cs : List Nat) (x : Int32) : Bool := decide (mh_pf cs x < cs.length ∧ nI (cs.getD (mh_pf cs x) 0) = x)
theorem mh_fx1_holds (hc : mh_Co h a v f cs) (x : Int32) : f_X1_holds_e a x h = some ((if mh_hd cs x = true then 1 else 0), h) := by
  have hl := hc.2.2.1
  have hp := mh_pf_le cs x
  unfold f_X1_holds_e
  rw [mh_cal_eq hc.1, mh_b2_eq (mh_fx1_placeFor hc x), mh_gI_eq hc.1 rfl, Option.bind_some]
  by_cases h1 : cs.length ≤ mh_pf cs x
  · rw [if_pos ((nI_leI (by omega) (by omega)).mpr h1), if_neg (by simp [mh_hd]; omega)]
    rfl
  · rw [if_neg (fun q => h1 ((nI_leI (by omega) (by omega)).mp q)), mh_gR_eq hc.1 rfl, Option.bind_some, mh_aI_eq hc.2.1 (by omega) (by omega), Option.bind_some, hc.2.2.2 _ (by omega)]
    by_cases h2 : nI (cs.getD (mh_pf cs x) 0) = x
    · rw [if_pos h2, if_pos (by simp only [mh_hd, decide_eq_true_eq]; exact ⟨by omega, h2⟩)]
      rfl
    · rw [if_neg h2, if_neg (by simp only [mh_hd, decide_eq_true_eq]; exact fun q => h2 q.2)]
      rfl
end MhCoins
