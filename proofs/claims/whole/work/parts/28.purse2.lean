theorem mh_lp_fill {a : Nat} (x : Int32) {N : Nat} (hN : N < 2 ^ 31) : ∀ (d i n : Nat) (f : Nat → Int32) (h : mh_H), h a = some (.inl (0, N, .inl f)) → N ≤ i + d → d < n → i ≤ N →
    ∃ f', f_J7_fill_53178_b5 n a x (nI i) (nI N) h = some (mh_up h a (.inl (0, N, .inl f'))) ∧ (∀ j, j < i → f' j = f j) ∧ ∀ j, i ≤ j → j < N → f' j = x := by
  intro d
  induction d with
  | zero =>
    intro i n f h g1 g2 g3 g4
    obtain ⟨n, rfl⟩ : ∃ k, n = k + 1 := ⟨n - 1, by omega⟩
    refine ⟨f, ?_, fun _ _ => rfl, fun j q1 q2 => absurd q2 (by omega)⟩
    rw [f_J7_fill_53178_b5, if_pos ((nI_leI hN (by omega)).mpr (by omega)), mh_up_id g1]
    rfl
  | succ d ih =>
    intro i n f h g1 g2 g3 g4
    obtain ⟨n, rfl⟩ : ∃ k, n = k + 1 := ⟨n - 1, by omega⟩
    by_cases hi : N ≤ i
    · refine ⟨f, ?_, fun _ _ => rfl, fun j q1 q2 => absurd q2 (by omega)⟩
      rw [f_J7_fill_53178_b5, if_pos ((nI_leI hN (by omega)).mpr (by omega)), mh_up_id g1]
      rfl
    · obtain ⟨f', e1, e2, e3⟩ := ih (i + 1) n (upd f i x) (mh_up h a (.inl (0, N, .inl (upd f i x)))) (mh_up_eq _ _ _) (by omega) (by omega) (by omega)
      refine ⟨f', ?_, fun j hj => by rw [e2 j (by omega), pk_un (by omega)], fun j q1 q2 => ?_⟩
      · rw [f_J7_fill_53178_b5, if_neg (fun q => hi ((nI_leI hN (by omega)).mp q)), mh_sI_eq g1 (by omega) hN, Option.bind_some]
        show f_J7_fill_53178_b5 n a x (nI i + Int32.ofInt 1) (nI N) _ = _
        rw [mh_inc, e1, mh_up_up]
      · by_cases hj : j = i
        · rw [e2 j (by omega), hj, pk_us]
        · exact e3 j (by omega) q2
theorem mh_aL_eq {h : mh_H} {a kd : Nat} {x : vp_A} (ha : h a = some (.inl (kd, x))) : mh_aL h a kd = some (nI x.1) := by
  unfold mh_aL
  rw [ha]
  show (if kd = kd then some (Int32.ofNat x.1) else none) = _
  rw [if_pos rfl]
  rfl
theorem mh_fj7_fill {h : mh_H} {a N : Nat} {f : Nat → Int32} (ha : h a = some (.inl (0, N, .inl f))) (hN : N < 2 ^ 31) (x : Int32) : ∃ f', f_J7_fill_53178_e a x h = some (mh_up h a (.inl (0, N, .inl f'))) ∧ ∀ j, j < N → f' j = x := by
  obtain ⟨f', e1, -, e3⟩ := mh_lp_fill x hN N 0 mh_fu f h ha (by omega) (mh_fuel N (by omega)) (by omega)
  rw [nI_0] at e1
  refine ⟨f', ?_, fun j hj => e3 j (by omega) hj⟩
  unfold f_J7_fill_53178_e
  show (mh_aL h a 0).bind _ = _
  rw [mh_aL_eq ha, Option.bind_some]
  exact e1
theorem mh_fx7_refit {h : mh_H} {o a v t a1 v1 : Nat} {f g f1 : Nat → Int32} {cs ns c1 : List Nat} (hp : mh_Pu h o a v t f g cs ns) (hc : mh_Co h a1 v1 f1 c1) (q1 : a ≠ v) (q2 : a1 ≠ v) (q3 : v1 ≠ v) (q4 : a1 ≠ a) (q5 : v1 ≠ a) (q6 : o ≠ a) (q7 : o ≠ v) (q8 : t ≠ a) (q9 : t ≠ v) (q10 : o ≠ t) :
    ∃ h' f' g', f_X7_refit_e o a1 h = some h' ∧ mh_Pu h' o a v t f' g' c1 (List.replicate c1.length 0) ∧ ∀ b, b ≠ a → b ≠ v → b ≠ t → h' b = h b := by
  have hl := hc.2.2.1
  obtain ⟨f', e1, e2⟩ := mh_fx1_copy hp.2.1 hc q1 q2 q3 q4 q5
  have ht : (mh_up (mh_up h a (.inr (1, [.ref v, .int (nI c1.length)]))) v (.inl (0, 12, .inl f'))) t = some (.inl (0, 12, .inl g)) := by rw [mh_up_ne q9, mh_up_ne q8]; exact hp.2.2.1
  have ho : (mh_up (mh_up h a (.inr (1, [.ref v, .int (nI c1.length)]))) v (.inl (0, 12, .inl f'))) o = some (.inr (7, [.ref a, .ref t])) := by rw [mh_up_ne q7, mh_up_ne q6]; exact hp.1
  obtain ⟨g', e3, e4⟩ := mh_fj7_fill ht (by omega) 0
  refine ⟨mh_up (mh_up (mh_up h a (.inr (1, [.ref v, .int (nI c1.length)]))) v (.inl (0, 12, .inl f'))) t (.inl (0, 12, .inl g')), f', g', ?_, ⟨by rw [mh_up_ne q10]; exact ho, ⟨by rw [mh_up_ne q8.symm]; exact e2.1, by rw [mh_up_ne q9.symm]; exact e2.2.1, e2.2.2⟩, mh_up_eq _ _ _, by rw [List.length_replicate], fun i hi => ?_⟩, fun b h1 h2 h3 => by rw [mh_up_ne h3, mh_up_ne h2, mh_up_ne h1]⟩
  · unfold f_X7_refit_e
    rw [mh_gR_eq hp.1 rfl, Option.bind_some, mh_cal_eq hp.2.1.1, e1, Option.bind_some, mh_gR_eq ho rfl, Option.bind_some, e3, Option.bind_some]
  · rw [e4 i (by omega), List.getD_eq_getElem?_getD, List.getElem?_replicate, if_pos hi]
    rfl
