theorem mh_Co.keep {h h' : mh_H} {a v : Nat} {f : Nat → Int32} {cs : List Nat} (hc : mh_Co h a v f cs) (e1 : h' a = h a) (e2 : h' v = h v) : mh_Co h' a v f cs := ⟨e1.trans hc.1, e2.trans hc.2.1, hc.2.2⟩
theorem mh_Pu.keep {h h' : mh_H} {o a v t : Nat} {f g : Nat → Int32} {cs ns : List Nat} (hp : mh_Pu h o a v t f g cs ns) (e0 : h' o = h o) (e1 : h' a = h a) (e2 : h' v = h v) (e3 : h' t = h t) : mh_Pu h' o a v t f g cs ns := ⟨e0.trans hp.1, hp.2.1.keep e1 e2, e3.trans hp.2.2.1, hp.2.2.2⟩
theorem mh_lp_pcopy {o a t o1 a1 v1 t1 : Nat} {f1 g1 : Nat → Int32} {c1 n1 : List Nat} (q1 : o ≠ t) (q2 : o1 ≠ t) (q3 : a1 ≠ t) (q4 : v1 ≠ t) (q5 : t1 ≠ t) : ∀ (d i n : Nat) (g : Nat → Int32) (h : mh_H), h o = some (.inr (7, [.ref a, .ref t])) → h t = some (.inl (0, 12, .inl g)) → mh_Pu h o1 a1 v1 t1 f1 g1 c1 n1 → 12 ≤ i + d → d < n → i ≤ 12 →
    ∃ g', f_X7_copy_b13 n o o1 (nI i) h = some (mh_up h t (.inl (0, 12, .inl g'))) ∧ (∀ j, j < i → g' j = g j) ∧ ∀ j, i ≤ j → j < 12 → g' j = nI (n1.getD j 0) := by
  intro d
  induction d with
  | zero =>
    intro i n g h e0 e1 hp e2 e3 e4
    obtain ⟨n, rfl⟩ : ∃ k, n = k + 1 := ⟨n - 1, by omega⟩
    refine ⟨g, ?_, fun _ _ => rfl, fun j r1 r2 => absurd r2 (by omega)⟩
    rw [f_X7_copy_b13, if_pos (show (12 : Int32) ≤ nI i from (nI_leI (a := 12) (by omega) (by omega)).mpr (by omega)), mh_up_id e1]
    rfl
  | succ d ih =>
    intro i n g h e0 e1 hp e2 e3 e4
    obtain ⟨n, rfl⟩ : ∃ k, n = k + 1 := ⟨n - 1, by omega⟩
    by_cases hi : 12 ≤ i
    · refine ⟨g, ?_, fun _ _ => rfl, fun j r1 r2 => absurd r2 (by omega)⟩
      rw [f_X7_copy_b13, if_pos (show (12 : Int32) ≤ nI i from (nI_leI (a := 12) (by omega) (by omega)).mpr (by omega)), mh_up_id e1]
      rfl
    · have hp' : mh_Pu (mh_up h t (.inl (0, 12, .inl (upd g i (nI (n1.getD i 0)))))) o1 a1 v1 t1 f1 g1 c1 n1 := hp.keep (mh_up_ne q2) (mh_up_ne q3) (mh_up_ne q4) (mh_up_ne q5)
      obtain ⟨g', r1, r2, r3⟩ := ih (i + 1) n (upd g i (nI (n1.getD i 0))) _ (by rw [mh_up_ne q1]; exact e0) (mh_up_eq _ _ _) hp' (by omega) (by omega) (by omega)
      refine ⟨g', ?_, fun j hj => by rw [r2 j (by omega), pk_un (by omega)], fun j p1 p2 => ?_⟩
      · have hn : ¬ (12 : Int32) ≤ nI i := fun q => hi ((nI_leI (a := 12) (by omega) (by omega)).mp q)
        rw [f_X7_copy_b13, if_neg hn, mh_gR_eq e0 rfl, Option.bind_some, mh_cal_eq hp.1, mh_b2_eq (mh_fx7_often hp (by omega)), mh_sI_eq e1 (by omega) (by omega), Option.bind_some]
        show f_X7_copy_b13 n o o1 (nI i + Int32.ofInt 1) _ = _
        rw [mh_inc, r1, mh_up_up]
      · by_cases hj : j = i
        · rw [r2 j (by omega), hj, pk_us]
        · exact r3 j (by omega) p2
theorem mh_fx7_copy {h : mh_H} {o a v t o1 a1 v1 t1 : Nat} {f g f1 g1 : Nat → Int32} {cs ns c1 n1 : List Nat} (hp : mh_Pu h o a v t f g cs ns) (hq : mh_Pu h o1 a1 v1 t1 f1 g1 c1 n1) (q1 : a ≠ v) (q2 : a1 ≠ v) (q3 : v1 ≠ v) (q4 : a1 ≠ a) (q5 : v1 ≠ a) (q6 : o ≠ a) (q7 : o ≠ v) (q8 : t ≠ a) (q9 : t ≠ v) (q10 : o ≠ t) (q11 : o1 ≠ a) (q12 : o1 ≠ v) (q13 : o1 ≠ t) (q14 : a1 ≠ t) (q15 : v1 ≠ t) (q16 : t1 ≠ a) (q17 : t1 ≠ v) (q18 : t1 ≠ t) :
    ∃ h' f' g', f_X7_copy_e o o1 h = some h' ∧ mh_Pu h' o a v t f' g' c1 n1 ∧ ∀ b, b ≠ a → b ≠ v → b ≠ t → h' b = h b := by
  have hl := hq.2.1.2.2.1
  obtain ⟨f', e1, e2⟩ := mh_fx1_copy hp.2.1 hq.2.1 q1 q2 q3 q4 q5
  have ht : (mh_up (mh_up h a (.inr (1, [.ref v, .int (nI c1.length)]))) v (.inl (0, 12, .inl f'))) t = some (.inl (0, 12, .inl g)) := by rw [mh_up_ne q9, mh_up_ne q8]; exact hp.2.2.1
  have ho : (mh_up (mh_up h a (.inr (1, [.ref v, .int (nI c1.length)]))) v (.inl (0, 12, .inl f'))) o = some (.inr (7, [.ref a, .ref t])) := by rw [mh_up_ne q7, mh_up_ne q6]; exact hp.1
  have hq' : mh_Pu (mh_up (mh_up h a (.inr (1, [.ref v, .int (nI c1.length)]))) v (.inl (0, 12, .inl f'))) o1 a1 v1 t1 f1 g1 c1 n1 := hq.keep (by rw [mh_up_ne q12, mh_up_ne q11]) (by rw [mh_up_ne q2, mh_up_ne q4]) (by rw [mh_up_ne q3, mh_up_ne q5]) (by rw [mh_up_ne q17, mh_up_ne q16])
  obtain ⟨g', e3, -, e4⟩ := mh_lp_pcopy q10 q13 q14 q15 q18 12 0 mh_fu g _ ho ht hq' (by omega) (mh_fuel 12 (by omega)) (by omega)
  rw [nI_0] at e3
  refine ⟨mh_up (mh_up (mh_up h a (.inr (1, [.ref v, .int (nI c1.length)]))) v (.inl (0, 12, .inl f'))) t (.inl (0, 12, .inl g')), f', g', ?_, ⟨by rw [mh_up_ne q10]; exact ho, ⟨by rw [mh_up_ne q8.symm]; exact e2.1, by rw [mh_up_ne q9.symm]; exact e2.2.1, e2.2.2⟩, mh_up_eq _ _ _, hq.2.2.2.1, fun i hi => e4 i (by omega) (by omega)⟩, fun b h1 h2 h3 => by rw [mh_up_ne h3, mh_up_ne h2, mh_up_ne h1]⟩
  unfold f_X7_copy_e
  rw [mh_gR_eq hp.1 rfl, Option.bind_some, mh_cal_eq hq.1, mh_b2_eq (mh_fx7_coins hq), mh_cal_eq hp.2.1.1, e1, Option.bind_some]
  exact e3
