theorem mh_up_up (h : mh_H) (a : Nat) (e1 e2 : mh_E) : mh_up (mh_up h a e1) a e2 = mh_up h a e2 := by
  funext b
  unfold mh_up
  by_cases hb : b = a
  · rw [if_pos hb, if_pos hb]
  · rw [if_neg hb, if_neg hb, if_neg hb]
theorem mh_up_id {h : mh_H} {a : Nat} {e : mh_E} (he : h a = some e) : mh_up h a e = h := by
  funext b
  unfold mh_up
  by_cases hb : b = a
  · rw [if_pos hb, hb, he]
  · rw [if_neg hb]
theorem mh_dec (i : Nat) : nI (i + 1) + Int32.ofInt (-1) = nI i := by
  have e : nI (i + 1) + Int32.ofInt (-1) = nI (i + 1) - 1 := by
    rw [Int32.sub_eq_add_neg]
    rfl
  rw [e, nI_pred]
/-- a row moved up by one, from p to p + k -/
def mh_sh (f : Nat → Int32) (p k : Nat) : Nat → Int32 := fun j => if p < j ∧ j ≤ p + k then f (j - 1) else f j
theorem mh_sh0 (f : Nat → Int32) (p : Nat) : mh_sh f p 0 = f := by
  funext j
  unfold mh_sh
  rw [if_neg (by omega)]
theorem mh_sh_s (f : Nat → Int32) (p k : Nat) : mh_sh (upd f (p + k + 1) (f (p + k))) p k = mh_sh f p (k + 1) := by
  funext j
  unfold mh_sh
  by_cases h1 : p < j ∧ j ≤ p + k
  · rw [if_pos h1, if_pos (by omega), pk_un (by omega)]
  · rw [if_neg h1]
    by_cases h2 : j = p + k + 1
    · rw [if_pos (by omega), h2, pk_us]
      rfl
    · rw [if_neg (by omega), pk_un h2]
theorem mh_lp_ins {a v : Nat} (hav : a ≠ v) (x c : Int32) (p : Nat) : ∀ (k n : Nat) (f : Nat → Int32) (h : mh_H), h a = some (.inr (1, [.ref v, .int c])) → h v = some (.inl (0, 12, .inl f)) → p + k ≤ 11 → k < n →
    f_X1_insert_b28 n a x (nI p) (nI (p + k)) h = f_X1_insert_b53 a x (nI p) (mh_up h v (.inl (0, 12, .inl (mh_sh f p k)))) := by
  intro k
  induction k with
  | zero =>
    intro n f h h1 h2 h3 h4
    obtain ⟨n, rfl⟩ : ∃ k, n = k + 1 := ⟨n - 1, by omega⟩
    rw [f_X1_insert_b28, if_pos ((nI_leI (by omega) (by omega)).mpr (by omega)), mh_sh0, mh_up_id h2]
  | succ k ih =>
    intro n f h h1 h2 h3 h4
    obtain ⟨n, rfl⟩ : ∃ k, n = k + 1 := ⟨n - 1, by omega⟩
    rw [f_X1_insert_b28, if_neg (fun q => absurd ((nI_leI (by omega) (by omega)).mp q) (by omega)), mh_gR_eq h1 rfl, Option.bind_some, Option.bind_some]
    rw [show p + (k + 1) = (p + k) + 1 from rfl, nI_pred, mh_aI_eq h2 (by omega) (by omega), Option.bind_some, mh_sI_eq h2 (by omega) (by omega), Option.bind_some]
    show f_X1_insert_b28 n a x (nI p) (nI (p + k + 1) + Int32.ofInt (-1)) _ = _
    rw [mh_dec, ih n (upd f (p + k + 1) (f (p + k))) _ (by rw [mh_up_ne hav]; exact h1) (mh_up_eq _ _ _) (by omega) (by omega), mh_up_up, mh_sh_s]
/-- a value comes in at its place -/
def mh_ins (cs : List Nat) (val : Nat) : List Nat := cs.take (mh_pf cs (nI val)) ++ val :: cs.drop (mh_pf cs (nI val))
theorem mh_ins_len (cs : List Nat) (val : Nat) : (mh_ins cs val).length = cs.length + 1 := by
  have := mh_pf_le cs (nI val)
  unfold mh_ins
  rw [List.length_append, List.length_cons, List.length_take, List.length_drop]
  omega
theorem mh_ins_get (cs : List Nat) (val i : Nat) : (mh_ins cs val).getD i 0 = if i < mh_pf cs (nI val) then cs.getD i 0 else if i = mh_pf cs (nI val) then val else cs.getD (i - 1) 0 := by
  have hp := mh_pf_le cs (nI val)
  unfold mh_ins
  generalize mh_pf cs (nI val) = p at hp
  simp only [List.getD_eq_getElem?_getD]
  have hlt : (cs.take p).length = p := by rw [List.length_take]; omega
  by_cases h1 : i < p
  · rw [if_pos h1, List.getElem?_append_left (by omega), List.getElem?_take_of_lt h1]
  · rw [if_neg h1, List.getElem?_append_right (by omega), hlt]
    by_cases h2 : i = p
    · rw [if_pos h2, h2, Nat.sub_self]
      rfl
    · rw [if_neg h2]
      obtain ⟨d, hd⟩ : ∃ d, i - p = d + 1 := ⟨i - p - 1, by omega⟩
      rw [hd, List.getElem?_cons_succ, List.getElem?_drop, show p + d = i - 1 by omega]
theorem mh_fx1_insert {h : mh_H} {a v : Nat} {f : Nat → Int32} {cs : List Nat} (hc : mh_Co h a v f cs) (hav : a ≠ v) (val : Nat) (hf : cs.length < 12) (hh : mh_hd cs (nI val) = false) :
    ∃ h' f', f_X1_insert_e a (nI val) h = some (1, h') ∧ mh_Co h' a v f' (mh_ins cs val) ∧ ∀ b, b ≠ a → b ≠ v → h' b = h b := by
  have hp := mh_pf_le cs (nI val)
  obtain ⟨k, hk⟩ : ∃ k, cs.length = mh_pf cs (nI val) + k := ⟨cs.length - mh_pf cs (nI val), by omega⟩
  have e0 : f_X1_holds_e a (nI val) h = some (0, h) := by rw [mh_fx1_holds hc, hh]; rfl
  have e1 : f_X1_insert_e a (nI val) h = f_X1_insert_b53 a (nI val) (nI (mh_pf cs (nI val))) (mh_up h v (.inl (0, 12, .inl (mh_sh f (mh_pf cs (nI val)) k)))) := by
    unfold f_X1_insert_e
    rw [mh_cal_eq hc.1, mh_b2_eq (mh_fx1_isFull hc), if_neg (show ¬ cs.length = 12 by omega), if_pos rfl, mh_cal_eq hc.1, mh_b2_eq e0, if_pos rfl, mh_cal_eq hc.1, mh_b2_eq (mh_fx1_placeFor hc _), mh_gI_eq hc.1 rfl, Option.bind_some, hk]
    exact mh_lp_ins hav _ _ _ k mh_fu f h (by rw [hc.1, hk]) hc.2.1 (by omega) (mh_fuel k (by omega))
  refine ⟨mh_up (mh_up h v (.inl (0, 12, .inl (upd (mh_sh f (mh_pf cs (nI val)) k) (mh_pf cs (nI val)) (nI val))))) a (.inr (1, [.ref v, .int (nI (cs.length + 1))])), upd (mh_sh f (mh_pf cs (nI val)) k) (mh_pf cs (nI val)) (nI val), ?_, ?_, ?_⟩
  · rw [e1]
    unfold f_X1_insert_b53
    rw [mh_gR_eq (h := mh_up h v _) (by rw [mh_up_ne hav]; exact hc.1) rfl, Option.bind_some, mh_sI_eq (mh_up_eq _ _ _) (by omega) (by omega), Option.bind_some, mh_up_up, mh_gI_eq (h := mh_up h v _) (by rw [mh_up_ne hav]; exact hc.1) rfl, Option.bind_some, mh_pI_eq (h := mh_up h v _) (by rw [mh_up_ne hav]; exact hc.1) (Nat.le_of_ble_eq_true rfl), Option.bind_some]
    show mh_rz 1 (mh_up _ a (.inr (1, [.ref v, .int (nI cs.length + 1)]))) = _
    rw [nI_1]
    rfl
  · refine ⟨?_, ?_, ?_, ?_⟩
    · rw [mh_ins_len, mh_up_eq]
    · rw [mh_up_ne hav.symm, mh_up_eq]
    · rw [mh_ins_len]
      omega
    · intro i hi
      rw [mh_ins_len] at hi
      rw [mh_ins_get]
      by_cases h1 : i < mh_pf cs (nI val)
      · rw [if_pos h1, pk_un (by omega)]
        unfold mh_sh
        rw [if_neg (by omega), hc.2.2.2 i (by omega)]
      · rw [if_neg h1]
        by_cases h2 : i = mh_pf cs (nI val)
        · rw [if_pos h2, h2, pk_us]
        · rw [if_neg h2, pk_un h2]
          unfold mh_sh
          rw [if_pos (by omega), hc.2.2.2 (i - 1) (by omega)]
  · intro b h1 h2
    rw [mh_up_ne h1, mh_up_ne h2]
