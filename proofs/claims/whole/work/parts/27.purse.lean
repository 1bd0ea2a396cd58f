/-! Purse: the object at o, its Coins at a with the row v, its counts at t; the values cs, how often ns -/
def mh_Pu (h : mh_H) (o a v t : Nat) (f g : Nat → Int32) (cs ns : List Nat) : Prop :=
  h o = some (.inr (7, [.ref a, .ref t])) ∧ mh_Co h a v f cs ∧ h t = some (.inl (0, 12, .inl g)) ∧ ns.length = cs.length ∧ ∀ i, i < cs.length → g i = nI (ns.getD i 0)
section MhPurse
variable {h : mh_H} {o a v t : Nat} {f g : Nat → Int32} {cs ns : List Nat}
theorem mh_fx7_coins (hp : mh_Pu h o a v t f g cs ns) : f_X7_coins_e o h = some (a, h) := by
  unfold f_X7_coins_e
  rw [mh_gR_eq hp.1 rfl]
  rfl
theorem mh_fx7_often (hp : mh_Pu h o a v t f g cs ns) {i : Nat} (hi : i < 2 ^ 31) : f_X7_often_e o (nI i) h = some (nI (ns.getD i 0), h) := by
  have hl := hp.2.1.2.2.1
  unfold f_X7_often_e
  rw [if_neg (nI_pos hi), mh_gR_eq hp.1 rfl, Option.bind_some, mh_cal_eq hp.2.1.1, mh_b2_eq (mh_fx1_count hp.2.1)]
  by_cases h1 : cs.length ≤ i
  · rw [if_pos ((nI_leI (by omega) hi).mpr h1), mh_getD0 (by rw [hp.2.2.2.1]; exact h1)]
    rfl
  · rw [if_neg (fun q => h1 ((nI_leI (by omega) hi).mp q)), mh_gR_eq hp.1 rfl, Option.bind_some, mh_aI_eq hp.2.2.1 (by omega) (by omega), Option.bind_some, hp.2.2.2.2 i (by omega)]
    rfl
theorem mh_fx7_often_neg {x : Int32} (hx : x < 0) : f_X7_often_e o x h = some (0, h) := by
  unfold f_X7_often_e
  rw [if_pos hx]
  rfl
theorem mh_fx7_set (hp : mh_Pu h o a v t f g cs ns) (ho : o ≠ t) (ha : a ≠ t) (hv : v ≠ t) {i : Nat} (hi : i < cs.length) (k : Nat) :
    f_X7_set_e o (nI i) (nI k) h = some (mh_up h t (.inl (0, 12, .inl (upd g i (nI k))))) ∧ mh_Pu (mh_up h t (.inl (0, 12, .inl (upd g i (nI k))))) o a v t f (upd g i (nI k)) cs (ns.set i k) := by
  have hl := hp.2.1.2.2.1
  refine ⟨?_, by rw [mh_up_ne ho]; exact hp.1, ⟨by rw [mh_up_ne ha]; exact hp.2.1.1, by rw [mh_up_ne hv]; exact hp.2.1.2.1, hp.2.1.2.2⟩, mh_up_eq _ _ _, by rw [List.length_set]; exact hp.2.2.2.1, fun j hj => ?_⟩
  · unfold f_X7_set_e
    rw [if_neg (nI_pos (by omega)), mh_gR_eq hp.1 rfl, Option.bind_some, mh_cal_eq hp.2.1.1, mh_b2_eq (mh_fx1_count hp.2.1), if_neg (fun q => absurd ((nI_leI (by omega) (by omega)).mp q) (by omega)), mh_gR_eq hp.1 rfl, Option.bind_some, mh_sI_eq hp.2.2.1 (by omega) (by omega), Option.bind_some]
    rfl
  · rw [List.getD_eq_getElem?_getD, List.getElem?_set]
    by_cases hji : j = i
    · rw [hji, pk_us, if_pos rfl, if_pos (by rw [hp.2.2.2.1]; exact hi)]
      rfl
    · rw [pk_un hji, if_neg (fun q => hji q.symm), hp.2.2.2.2 j hj, List.getD_eq_getElem?_getD]
/-- all that a purse has, as a sum -/
def mh_dot : List Nat → List Nat → Nat
  | c :: cs, n :: ns => n * c + mh_dot cs ns
  | _, _ => 0
theorem mh_nI_mul (x y : Nat) : nI x * nI y = nI (x * y) := by
  unfold nI
  rw [Int32.ofNat_mul]
theorem mh_lp_total (hp : mh_Pu h o a v t f g cs ns) : ∀ (d i n x : Nat), cs.length ≤ i + d → d < n → i ≤ 12 → f_X7_total_b4 n o (nI x) (nI i) h = some (nI (x + mh_dot (cs.drop i) (ns.drop i)), h) := by
  have hl := hp.2.1.2.2.1
  intro d
  induction d with
  | zero =>
    intro i n x h1 h2 h3
    obtain ⟨n, rfl⟩ : ∃ k, n = k + 1 := ⟨n - 1, by omega⟩
    rw [f_X7_total_b4, mh_gR_eq hp.1 rfl, Option.bind_some, mh_cal_eq hp.2.1.1, mh_b2_eq (mh_fx1_count hp.2.1), if_pos ((nI_leI (by omega) (by omega)).mpr (by omega)), List.drop_eq_nil_of_le (by omega)]
    rfl
  | succ d ih =>
    intro i n x h1 h2 h3
    obtain ⟨n, rfl⟩ : ∃ k, n = k + 1 := ⟨n - 1, by omega⟩
    rw [f_X7_total_b4, mh_gR_eq hp.1 rfl, Option.bind_some, mh_cal_eq hp.2.1.1, mh_b2_eq (mh_fx1_count hp.2.1)]
    by_cases hi : cs.length ≤ i
    · rw [if_pos ((nI_leI (by omega) (by omega)).mpr hi), List.drop_eq_nil_of_le (by omega)]
      rfl
    · rw [if_neg (fun q => hi ((nI_leI (by omega) (by omega)).mp q)), mh_gR_eq hp.1 rfl, Option.bind_some, mh_aI_eq hp.2.2.1 (by omega) (by omega), Option.bind_some, hp.2.2.2.2 i (by omega), mh_gR_eq hp.1 rfl, Option.bind_some, mh_cal_eq hp.2.1.1, mh_b2_eq (mh_fx1_value hp.2.1 (by omega))]
      show f_X7_total_b4 n o (nI x + nI (ns.getD i 0) * nI (cs.getD i 0)) (nI i + Int32.ofInt 1) h = _
      rw [mh_inc, mh_nI_mul, nI_add, ih (i + 1) n _ (by omega) (by omega) (by omega), mh_drop (show i < cs.length by omega), mh_drop (show i < ns.length by rw [hp.2.2.2.1]; omega), Nat.add_assoc]
      rfl
theorem mh_fx7_total (hp : mh_Pu h o a v t f g cs ns) : f_X7_total_e o h = some (nI (mh_dot cs ns), h) := by
  have hl := hp.2.1.2.2.1
  have e := mh_lp_total hp 12 0 mh_fu 0 (by omega) (mh_fuel 12 (by omega)) (by omega)
  rw [nI_0, List.drop_zero, List.drop_zero, Nat.zero_add] at e
  exact e
end MhPurse
