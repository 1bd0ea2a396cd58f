theorem mh_lp_palike {h : mh_H} {o a v t o1 a1 v1 t1 : Nat} {f g f1 g1 : Nat → Int32} {cs ns n1 : List Nat} (hp : mh_Pu h o a v t f g cs ns) (hq : mh_Pu h o1 a1 v1 t1 f1 g1 cs n1) (b0 : ∀ i, ns.getD i 0 < 2 ^ 31) (b1 : ∀ i, n1.getD i 0 < 2 ^ 31) : ∀ (d i n : Nat), cs.length ≤ i + d → d < n → i ≤ 12 →
    f_X7_alike_b18 n o o1 (nI i) h = some ((if ns.drop i = n1.drop i then 1 else 0), h) := by
  have hl := hp.2.1.2.2.1
  have l0 := hp.2.2.2.1
  have l1 := hq.2.2.2.1
  intro d
  induction d with
  | zero =>
    intro i n e1 e2 e3
    obtain ⟨n, rfl⟩ : ∃ k, n = k + 1 := ⟨n - 1, by omega⟩
    rw [f_X7_alike_b18, mh_gR_eq hp.1 rfl, Option.bind_some, mh_cal_eq hp.2.1.1, mh_b2_eq (mh_fx1_count hp.2.1), if_pos ((nI_leI (by omega) (by omega)).mpr (by omega)), if_pos (by rw [List.drop_eq_nil_of_le (by omega), List.drop_eq_nil_of_le (by omega)])]
    rfl
  | succ d ih =>
    intro i n e1 e2 e3
    obtain ⟨n, rfl⟩ : ∃ k, n = k + 1 := ⟨n - 1, by omega⟩
    rw [f_X7_alike_b18, mh_gR_eq hp.1 rfl, Option.bind_some, mh_cal_eq hp.2.1.1, mh_b2_eq (mh_fx1_count hp.2.1)]
    by_cases hi : cs.length ≤ i
    · rw [if_pos ((nI_leI (by omega) (by omega)).mpr hi), if_pos (by rw [List.drop_eq_nil_of_le (by omega), List.drop_eq_nil_of_le (by omega)])]
      rfl
    · rw [if_neg (fun q => hi ((nI_leI (by omega) (by omega)).mp q)), mh_gR_eq hp.1 rfl, Option.bind_some, mh_aI_eq hp.2.2.1 (by omega) (by omega), Option.bind_some, mh_cal_eq hq.1, mh_b2_eq (mh_fx7_often hq (by omega)), hp.2.2.2.2 i (by omega)]
      rw [mh_drop (show i < ns.length by omega), mh_drop (show i < n1.length by omega)]
      by_cases he : ns.getD i 0 = n1.getD i 0
      · rw [if_pos (by rw [he])]
        show f_X7_alike_b18 n o o1 (nI i + Int32.ofInt 1) h = _
        rw [mh_inc, ih (i + 1) n (by omega) (by omega) (by omega), he]
        by_cases hx : ns.drop (i + 1) = n1.drop (i + 1)
        · rw [if_pos hx, if_pos (by rw [hx])]
        · rw [if_neg hx, if_neg (fun q => hx (List.cons.inj q).2)]
      · rw [if_neg (fun q => he ((nI_eq (b0 i) (b1 i)).mp q)), if_neg (fun q => he (List.cons.inj q).1)]
        rfl
theorem mh_fx7_alike {h : mh_H} {o a v t o1 a1 v1 t1 : Nat} {f g f1 g1 : Nat → Int32} {cs ns c1 n1 : List Nat} (hp : mh_Pu h o a v t f g cs ns) (hq : mh_Pu h o1 a1 v1 t1 f1 g1 c1 n1) (b0 : ∀ i, ns.getD i 0 < 2 ^ 31) (b1 : ∀ i, n1.getD i 0 < 2 ^ 31) (b2 : ∀ i, cs.getD i 0 < 2 ^ 31) (b3 : ∀ i, c1.getD i 0 < 2 ^ 31) : f_X7_alike_e o o1 h = some ((if cs = c1 ∧ ns = n1 then 1 else 0), h) := by
  have hl := hp.2.1.2.2.1
  unfold f_X7_alike_e
  rw [mh_gR_eq hp.1 rfl, Option.bind_some, mh_cal_eq hq.1, mh_b2_eq (mh_fx7_coins hq), mh_cal_eq hp.2.1.1, mh_b2_eq (mh_fx1_alike hp.2.1 hq.2.1 b2 b3)]
  by_cases hc : cs = c1
  · subst hc
    have e := mh_lp_palike hp hq b0 b1 12 0 mh_fu (by omega) (mh_fuel 12 (by omega)) (by omega)
    rw [nI_0, List.drop_zero, List.drop_zero] at e
    rw [if_pos rfl, if_neg (by decide)]
    unfold mh_nm
    dsimp only
    rw [e]
    by_cases hn : ns = n1
    · rw [if_pos hn, if_pos ⟨rfl, hn⟩]
    · rw [if_neg hn, if_neg (fun q => hn q.2)]
  · rw [if_neg hc, if_pos rfl, if_neg (fun q => hc q.1)]
    rfl
