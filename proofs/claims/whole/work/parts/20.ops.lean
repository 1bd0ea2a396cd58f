/-! level 2: the model's words on a heap that is known -/
theorem mh_up_eq (h : mh_H) (a : Nat) (e : mh_E) : mh_up h a e a = some e := by unfold mh_up; rw [if_pos rfl]
theorem mh_up_ne {h : mh_H} {a b : Nat} {e : mh_E} (hn : b ≠ a) : mh_up h a e b = h b := by unfold mh_up; rw [if_neg hn]
theorem mh_gF_eq {h : mh_H} {a ci k : Nat} {fs : List Value} (ha : h a = some (.inr (ci, fs))) : mh_gF h a ci k = fs[k]? := by
  unfold mh_gF
  rw [ha]
  show (if ci = ci then fs[k]? else none) = _
  rw [if_pos rfl]
theorem mh_gI_eq {h : mh_H} {a ci k : Nat} {fs : List Value} {v : Int32} (ha : h a = some (.inr (ci, fs))) (hv : fs[k]? = some (.int v)) : mh_gI h a ci k = some v := by
  unfold mh_gI
  rw [mh_gF_eq ha, hv]
theorem mh_gR_eq {h : mh_H} {a ci k : Nat} {fs : List Value} {v : Nat} (ha : h a = some (.inr (ci, fs))) (hv : fs[k]? = some (.ref v)) : mh_gR h a ci k = some v := by
  unfold mh_gR
  rw [mh_gF_eq ha, hv]
theorem mh_pI_eq {h : mh_H} {a ci k : Nat} {fs : List Value} {v : Int32} (ha : h a = some (.inr (ci, fs))) (hk : k < fs.length) : mh_pI h a ci k v = some (mh_up h a (.inr (ci, fs.set k (.int v)))) := by
  unfold mh_pI
  rw [ha]
  show (if ci = ci ∧ k < fs.length then _ else none) = _
  rw [if_pos ⟨rfl, hk⟩]
theorem mh_pZ_eq {h : mh_H} {a ci k : Nat} {fs : List Value} {v : Int32} (ha : h a = some (.inr (ci, fs))) (hk : k < fs.length) (hv : v = 0 ∨ v = 1) : mh_pZ h a ci k v = some (mh_up h a (.inr (ci, fs.set k (.int v)))) := by
  unfold mh_pZ
  rw [if_pos hv, mh_pI_eq ha hk]
theorem mh_ixn {j n : Nat} (hj : j < n) (hn : n < 2 ^ 31) : 0 ≤ (nI j).toInt ∧ (nI j).toInt < (n : Int) := by
  rw [nI_toInt (by omega)]
  omega
theorem mh_aI_eq {h : mh_H} {a kd n j : Nat} {f : Nat → Int32} (ha : h a = some (.inl (kd, n, .inl f))) (hj : j < n) (hn : n < 2 ^ 31) : mh_aI h a kd (nI j) = some (f j) := by
  unfold mh_aI
  rw [ha]
  show (if kd = kd ∧ (0 ≤ (nI j).toInt ∧ (nI j).toInt < (n : Int)) then some (f (nI j).toNatClampNeg) else none) = _
  rw [if_pos ⟨rfl, mh_ixn hj hn⟩, nI_clamp (by omega)]
theorem mh_aJ_eq {h : mh_H} {a n j : Nat} {f : Nat → Int64} (ha : h a = some (.inl (1, n, .inr (.inl f)))) (hj : j < n) (hn : n < 2 ^ 31) : mh_aJ h a (nI j) = some (f j) := by
  unfold mh_aJ
  rw [ha]
  show (if 1 = 1 ∧ (0 ≤ (nI j).toInt ∧ (nI j).toInt < (n : Int)) then some (f (nI j).toNatClampNeg) else none) = _
  rw [if_pos ⟨rfl, mh_ixn hj hn⟩, nI_clamp (by omega)]
theorem mh_aR_eq {h : mh_H} {a kd n j v : Nat} {f : Nat → Option Nat} (ha : h a = some (.inl (kd, n, .inr (.inr (.inr (.inr f)))))) (hj : j < n) (hn : n < 2 ^ 31) (hv : f j = some v) : mh_aR h a kd (nI j) = some v := by
  unfold mh_aR
  rw [ha]
  show (if kd = kd ∧ (0 ≤ (nI j).toInt ∧ (nI j).toInt < (n : Int)) then f (nI j).toNatClampNeg else none) = _
  rw [if_pos ⟨rfl, mh_ixn hj hn⟩, nI_clamp (by omega), hv]
theorem mh_sI_eq {h : mh_H} {a n j : Nat} {f : Nat → Int32} {v : Int32} (ha : h a = some (.inl (0, n, .inl f))) (hj : j < n) (hn : n < 2 ^ 31) : mh_sI h a (nI j) v = some (mh_up h a (.inl (0, n, .inl (upd f j v)))) := by
  unfold mh_sI
  rw [ha]
  show (if 0 = 0 ∧ (0 ≤ (nI j).toInt ∧ (nI j).toInt < (n : Int)) then some (mh_up h a (.inl (0, n, .inl (upd f (nI j).toNatClampNeg v)))) else none) = _
  rw [if_pos ⟨rfl, mh_ixn hj hn⟩, nI_clamp (by omega)]
theorem mh_cal_eq {α : Type} {h : mh_H} {b ci : Nat} {fs : List Value} {o : Option α} (hb : h b = some (.inr (ci, fs))) : mh_cal h b ci o = o := by
  unfold mh_cal
  rw [hb]
  show (if ci = ci then o else none) = o
  rw [if_pos rfl]
theorem mh_b2_eq {α β : Type} {o : Option (α × mh_H)} {f : α → mh_H → Option β} {x : α} {h : mh_H} (ho : o = some (x, h)) : mh_b2 o f = f x h := by
  rw [ho]
  rfl
theorem mh_getD0 {cs : List Nat} {i : Nat} (hi : cs.length ≤ i) : cs.getD i 0 = 0 := by
  rw [List.getD_eq_getElem?_getD, List.getElem?_eq_none hi]
  rfl
/-! Coins: the object at a, its row at v, the values cs -/
def mh_Co (h : mh_H) (a v : Nat) (f : Nat → Int32) (cs : List Nat) : Prop :=
  h a = some (.inr (1, [.ref v, .int (nI cs.length)])) ∧ h v = some (.inl (0, 12, .inl f)) ∧ cs.length ≤ 12 ∧ ∀ i, i < cs.length → f i = nI (cs.getD i 0)
theorem mh_fx1_count {h : mh_H} {a v : Nat} {f : Nat → Int32} {cs : List Nat} (hc : mh_Co h a v f cs) : f_X1_count_e a h = some (nI cs.length, h) := by
  unfold f_X1_count_e
  rw [mh_gI_eq hc.1 rfl]
  rfl
theorem mh_fx1_value {h : mh_H} {a v : Nat} {f : Nat → Int32} {cs : List Nat} (hc : mh_Co h a v f cs) {i : Nat} (hi : i < 2 ^ 31) : f_X1_value_e a (nI i) h = some (nI (cs.getD i 0), h) := by
  unfold f_X1_value_e
  rw [if_neg (nI_pos hi), mh_gI_eq hc.1 rfl]
  show (if nI cs.length ≤ nI i then _ else _) = _
  have hl := hc.2.2.1
  by_cases h1 : cs.length ≤ i
  · rw [if_pos ((nI_leI (by omega) hi).mpr h1)]
    unfold f_X1_value_b21 f_X1_value_b22
    rw [mh_getD0 h1]
    rfl
  · rw [if_neg (fun q => h1 ((nI_leI (by omega) hi).mp q)), mh_gR_eq hc.1 rfl]
    show (mh_aI h v 0 (nI i)).bind _ = _
    rw [mh_aI_eq hc.2.1 (by omega) (by omega)]
    show f_X1_value_b22 (f i) h = _
    unfold f_X1_value_b22
    rw [hc.2.2.2 i (by omega)]
theorem mh_fx1_value_neg {h : mh_H} {a : Nat} {x : Int32} (hx : x < 0) : f_X1_value_e a x h = some (0, h) := by
  unfold f_X1_value_e
  rw [if_pos hx]
  rfl
theorem mh_fx1_least {h : mh_H} {a v : Nat} {f : Nat → Int32} {cs : List Nat} (hc : mh_Co h a v f cs) : f_X1_least_e a h = some (nI (cs.getD 0 0), h) := by
  unfold f_X1_least_e
  have e := mh_fx1_value (i := 0) hc (by omega)
  rw [nI_0] at e
  rw [mh_cal_eq hc.1, mh_b2_eq e]
theorem mh_fx1_greatest {h : mh_H} {a v : Nat} {f : Nat → Int32} {cs : List Nat} (hc : mh_Co h a v f cs) : f_X1_greatest_e a h = some (nI (cs.getD (cs.length - 1) 0), h) := by
  unfold f_X1_greatest_e
  rw [mh_gI_eq hc.1 rfl, Option.bind_some]
  have hl := hc.2.2.1
  rw [mh_cal_eq hc.1]
  cases hn : cs.length with
  | zero =>
    rw [mh_b2_eq (mh_fx1_value_neg (by rw [nI_0]; decide))]
    rw [mh_getD0 (by omega)]
    rfl
  | succ n =>
    rw [nI_pred, mh_b2_eq (mh_fx1_value hc (i := n) (by omega))]
    rfl
theorem mh_fx1_isFull {h : mh_H} {a v : Nat} {f : Nat → Int32} {cs : List Nat} (hc : mh_Co h a v f cs) : f_X1_isFull_e a h = some ((if cs.length = 12 then 1 else 0), h) := by
  unfold f_X1_isFull_e
  rw [mh_gI_eq hc.1 rfl]
  show (if nI cs.length < nI 12 then _ else _) = _
  have hl := hc.2.2.1
  by_cases h1 : cs.length < 12
  · rw [if_pos ((nI_ltI (by omega) (by omega)).mpr h1), if_neg (by omega)]
    rfl
  · rw [if_neg (fun q => h1 ((nI_ltI (by omega) (by omega)).mp q)), if_pos (by omega)]
    rfl
/-- where a value stands, or would come to stand -/
def mh_pf (cs : List Nat) (x : Int32) : Nat := (cs.takeWhile (fun c => decide (nI c < x))).length
theorem mh_pf_le (cs : List Nat) (x : Int32) : mh_pf cs x ≤ cs.length := by
  unfold mh_pf
  exact (List.takeWhile_sublist _).length_le
