theorem mh_sZ_eq {h : mh_H} {a n j : Nat} {f : Nat → Int32} {v : Int32} (ha : h a = some (.inl (2, n, .inl f))) (hj : j < n) (hn : n < 2 ^ 31) (hv : v = 0 ∨ v = 1) : mh_sZ h a (nI j) v = some (mh_up h a (.inl (2, n, .inl (upd f j v)))) := by
  unfold mh_sZ
  rw [ha]
  show (if 2 = 2 ∧ (0 ≤ (nI j).toInt ∧ (nI j).toInt < (n : Int)) ∧ (v = 0 ∨ v = 1) then some (mh_up h a (.inl (2, n, .inl (upd f (nI j).toNatClampNeg v)))) else none) = _
  rw [if_pos ⟨rfl, mh_ixn hj hn, hv⟩, nI_clamp (by omega)]
/-- Needs: the object at o, what is offered at a, what is paid at b, the picked Coins at k -/
def mh_Ns (a b k : Nat) : mh_E := .inr (5, [.ref a, .ref b, .ref k])
theorem mh_lp_nclear {o a b k : Nat} (hoa : o ≠ a) : ∀ (d i n : Nat) (f : Nat → Int32) (h : mh_H), h o = some (mh_Ns a b k) → h a = some (.inl (2, 301, .inl f)) → 301 ≤ i + d → d < n → i ≤ 301 →
    ∃ f', f_X5_clear_b2 n o (nI i) h = some (mh_up h a (.inl (2, 301, .inl f'))) ∧ (∀ j, j < i → f' j = f j) ∧ ∀ j, i ≤ j → j < 301 → f' j = 0 := by
  intro d
  induction d with
  | zero =>
    intro i n f h e0 e1 e2 e3 e4
    obtain ⟨n, rfl⟩ : ∃ k, n = k + 1 := ⟨n - 1, by omega⟩
    refine ⟨f, ?_, fun _ _ => rfl, fun j r1 r2 => absurd r2 (by omega)⟩
    rw [f_X5_clear_b2, if_pos (show (300 : Int32) < nI i from (nI_ltI (a := 300) (by omega) (by omega)).mpr (by omega)), mh_up_id e1]
    rfl
  | succ d ih =>
    intro i n f h e0 e1 e2 e3 e4
    obtain ⟨n, rfl⟩ : ∃ k, n = k + 1 := ⟨n - 1, by omega⟩
    by_cases hi : 300 < i
    · refine ⟨f, ?_, fun _ _ => rfl, fun j r1 r2 => absurd r2 (by omega)⟩
      rw [f_X5_clear_b2, if_pos (show (300 : Int32) < nI i from (nI_ltI (a := 300) (by omega) (by omega)).mpr (by omega)), mh_up_id e1]
      rfl
    · obtain ⟨f', r1, r2, r3⟩ := ih (i + 1) n (upd f i 0) (mh_up h a (.inl (2, 301, .inl (upd f i 0)))) (by rw [mh_up_ne hoa]; exact e0) (mh_up_eq _ _ _) (by omega) (by omega) (by omega)
      refine ⟨f', ?_, fun j hj => by rw [r2 j (by omega), pk_un (by omega)], fun j p1 p2 => ?_⟩
      · have hn : ¬ (300 : Int32) < nI i := fun q => hi ((nI_ltI (a := 300) (by omega) (by omega)).mp q)
        rw [f_X5_clear_b2, if_neg hn, mh_gR_eq e0 rfl, Option.bind_some, mh_sZ_eq e1 (by omega) (by omega) (Or.inl rfl), Option.bind_some]
        show f_X5_clear_b2 n o (nI i + Int32.ofInt 1) _ = _
        rw [mh_inc, r1, mh_up_up]
      · by_cases hj : j = i
        · rw [r2 j (by omega), hj, pk_us]
        · exact r3 j (by omega) p2
theorem mh_fx5_clear {h : mh_H} {o a b k : Nat} {f : Nat → Int32} (hoa : o ≠ a) (e0 : h o = some (mh_Ns a b k)) (e1 : h a = some (.inl (2, 301, .inl f))) : ∃ f', f_X5_clear_e o h = some (mh_up h a (.inl (2, 301, .inl f'))) ∧ ∀ j, j < 301 → f' j = 0 := by
  obtain ⟨f', r1, -, r3⟩ := mh_lp_nclear hoa 301 0 mh_fu f h e0 e1 (by omega) (mh_fuel 301 (by omega)) (by omega)
  rw [nI_0] at r1
  exact ⟨f', r1, fun j hj => r3 j (by omega) hj⟩
theorem mh_fx5_offer {h : mh_H} {o a b k s : Nat} {f : Nat → Int32} (e0 : h o = some (mh_Ns a b k)) (e1 : h a = some (.inl (2, 301, .inl f))) (h1 : 1 ≤ s) (h2 : s ≤ 300) : f_X5_offer_e o (nI s) h = some (mh_up h a (.inl (2, 301, .inl (upd f s 1)))) := by
  have n1 : ¬ nI s < (1 : Int32) := fun q => absurd ((nI_ltI (b := 1) (by omega) (by omega)).mp q) (by omega)
  have n2 : ¬ (300 : Int32) < nI s := fun q => absurd ((nI_ltI (a := 300) (by omega) (by omega)).mp q) (by omega)
  unfold f_X5_offer_e
  rw [if_neg n1, if_neg n2, mh_gR_eq e0 rfl, Option.bind_some, mh_sZ_eq e1 (by omega) (by omega) (Or.inr rfl), Option.bind_some]
  rfl
