/-! the first state: rows of references alike up to their lengths; blocks of new cells -/
def mh_kin (x y : Option mh_E) : Prop := x = y ∨ ∃ (kd n : Nat) (f g : Nat → Option Nat), x = some (.inl (kd, n, .inr (.inr (.inr (.inr f))))) ∧ y = some (.inl (kd, n, .inr (.inr (.inr (.inr g))))) ∧ ∀ j, j < n → f j = g j
def mh_Kin (h h' : mh_H) : Prop := ∀ a, mh_kin (h a) (h' a)
theorem mh_Kin.rfl {h : mh_H} : mh_Kin h h := fun _ => Or.inl (Eq.refl _)
theorem mh_Kin.up {h hs : mh_H} (k : mh_Kin h hs) {a kd n : Nat} {f g : Nat → Option Nat} (ha : h a = some (.inl (kd, n, .inr (.inr (.inr (.inr f)))))) (e : ∀ j, j < n → f j = g j) : mh_Kin h (mh_up hs a (.inl (kd, n, .inr (.inr (.inr (.inr g)))))) := fun b => by
  by_cases z : b = a
  · rw [z, mh_up_eq]
    exact Or.inr ⟨kd, n, f, g, ha, Eq.refl _, e⟩
  · rw [mh_up_ne z]
    exact k b
theorem mh_Kin.nn {h hs : mh_H} (k : mh_Kin h hs) {a : Nat} (ha : h a ≠ none) : hs a ≠ none := by
  rcases k a with e | ⟨kd, n, f, g, e1, e2, -⟩
  · rw [← e]; exact ha
  · rw [e2]; exact fun z => by cases z
theorem mh_Kin.ob {h hs : mh_H} (k : mh_Kin h hs) {a : Nat} {x : Nat × List Value} (ha : h a = some (.inr x)) : hs a = some (.inr x) := by
  rcases k a with e | ⟨kd, n, f, g, e1, e2, -⟩
  · rw [← e]; exact ha
  · rw [ha] at e1; cases e1
theorem mh_arrV_eq {cA : ClassId} {n : Nat} {f g : Nat → Value} (e : ∀ j, j < n → f j = g j) : arrV cA n f = arrV cA n g := by
  have t : (fun j : Fin n => f j.val) = fun j : Fin n => g j.val := funext (fun j => e j.val j.isLt)
  unfold arrV
  rw [t]
theorem mh_plg {L : List Nat} {f : Nat → va_E} {i : Nat} {q : Nat × va_E} (hq : (va_pl L f)[i]? = some q) : ∃ a, L[i]? = some a ∧ q = (a, f a) := by
  unfold va_pl at hq
  rw [List.getElem?_map] at hq
  cases hL : L[i]? with
  | none => rw [hL] at hq; cases hq
  | some a => rw [hL] at hq; exact ⟨a, rfl, (Option.some.inj hq).symm⟩
theorem mh_plp {L : List Nat} {f : Nat → va_E} {i a : Nat} (ha : L[i]? = some a) : (va_pl L f)[i]? = some (a, f a) := by
  unfold va_pl
  rw [List.getElem?_map, ha]
  rfl
theorem mh_W.kin {D : va_G} {ks : Nat → ClassId} {L : List Nat} {A : Nat → Prop} {H0 : Heap} {h h' : mh_H} {H : Heap} {locs : List Loc} (w : mh_W D ks L A H0 h H locs) (k : mh_Kin h h') : mh_W D ks L A H0 h' H locs := by
  obtain ⟨w1, w2, w3, w4⟩ := w
  refine ⟨fun i q hq => ?_, ⟨fun i j p q hp hq e => ?_, fun i q hq => ?_⟩, w3, fun a e he => ?_⟩
  · obtain ⟨a, ha, rfl⟩ := mh_plg hq
    have t := w1 i _ (mh_plp ha)
    rcases k a with e | ⟨kd, n, f, g, e1, e2, e3⟩
    · have t2 : mh_hw ks h' a = mh_hw ks h a := by
        unfold mh_hw
        rw [e]
      rw [t2]
      exact t
    · rw [mh_hw_at e1] at t
      rw [mh_hw_at e2]
      have t3 : H[a]? = some (vp_cell (ks kd) (n, .inr (.inr (.inr (.inr f))))) := t
      show H[a]? = some (vp_cell (ks kd) (n, .inr (.inr (.inr (.inr g)))))
      rw [t3]
      exact congrArg some (mh_arrV_eq (fun j hj => congrArg va_rf (e3 j hj)))
  · obtain ⟨a, ha, rfl⟩ := mh_plg hp
    obtain ⟨b, hb, rfl⟩ := mh_plg hq
    exact w2.1 i j _ _ (mh_plp ha) (mh_plp hb) e
  · obtain ⟨a, ha, rfl⟩ := mh_plg hq
    exact w2.2 i (a, mh_hw ks h a) (mh_plp ha)
  · rcases k a with e1 | ⟨kd, n, f, g, e1, e2, e3⟩
    · exact w4 a e (e1.trans he)
    · exact w4 a _ e1
theorem mh_gd_inj {l : List Nat} (hl : l.Nodup) : mh_Inj (fun i => l.getD i 0) l.length := by
  induction l with
  | nil =>
    intro i j hi
    exact absurd hi (Nat.not_lt_zero _)
  | cons a t ih =>
    obtain ⟨h1, h2⟩ := List.nodup_cons.mp hl
    intro i j hi hj e
    cases i with
    | zero =>
      cases j with
      | zero => rfl
      | succ j =>
        have e' : a = t.getD j 0 := e
        exact absurd (show a ∈ t by rw [e']; exact mh_get_mem (Nat.lt_of_succ_lt_succ hj)) h1
    | succ i =>
      cases j with
      | zero =>
        have e' : t.getD i 0 = a := e
        exact absurd (show a ∈ t by rw [← e']; exact mh_get_mem (Nat.lt_of_succ_lt_succ hi)) h1
      | succ j => exact congrArg Nat.succ (ih h2 i j (Nat.lt_of_succ_lt_succ hi) (Nat.lt_of_succ_lt_succ hj) e)
theorem mh_gd_map {n j : Nat} {f : Nat → Nat} (hj : j < n) : ((List.range n).map f).getD j 0 = f j := by
  rw [List.getD_eq_getElem?_getD, List.getElem?_map, List.getElem?_range hj]
  rfl
/-- the first state -/
def mh_s0 : mh_Sg := ((0, 0, 0), (fun _ => [], fun _ => [], fun _ => []), 0, none)
/-- component j, new: its cells bf, the object (made before) the p-th of them -/
def mh_Bk (h1 : mh_H) (q : Nat) (h' : mh_H) (j p : Nat) : Prop := ∃ bf : Nat → Nat, mh_Inj bf (mh_rg (j + 1) - mh_rg j) ∧ bf p = q ∧ (∀ i, i < mh_rg (j + 1) - mh_rg j → (bf i = q ∨ h1 (bf i) = none) ∧ h' (bf i) ≠ none) ∧ (∀ b, b ≠ q → h1 b ≠ none → h' b = h1 b) ∧ ∀ ad : Nat → Nat, (∀ i, i < mh_rg (j + 1) - mh_rg j → ad (mh_rg j + i) = bf i) → ∃ hb, mh_Kin h' hb ∧ mh_cc ad mh_s0 j hb
def mh_obi (i : Nat) : Nat := if i = 0 then 1008 else mh_rg i
/-- the components made so far; ql: their objects -/
def mh_S0 (o : Nat) (ql : List Nat) (ad : Nat → Nat) (h : mh_H) : Prop := mh_Inj ad (mh_rg ql.length) ∧ (∀ k, k < mh_rg ql.length → h (ad k) ≠ none ∧ ad k ≠ o) ∧ (∀ i, i < ql.length → ad (mh_obi i) = ql.getD i 0) ∧ ∀ ad' : Nat → Nat, (∀ k, k < mh_rg ql.length → ad' k = ad k) → ∃ hs, mh_Kin h hs ∧ ∀ i, i < ql.length → mh_cc ad' mh_s0 i hs
theorem mh_obi_lt {i : Nat} (hi : i < 15) : mh_obi i < mh_rg (i + 1) := by
  unfold mh_obi
  by_cases z : i = 0
  · rw [z]; decide
  · rw [if_neg z]
    exact (mh_rg_le (by omega)).1
theorem mh_rg_mo {i j : Nat} (hij : i ≤ j) (hj : j ≤ 16) : mh_rg i ≤ mh_rg j := by
  have := mh_rg_mono (j - i) i (by omega)
  rwa [show i + (j - i) = j by omega] at this
theorem mh_S0.nil {o : Nat} {h : mh_H} : mh_S0 o [] (fun _ => 0) h := ⟨fun i j hi => absurd hi (Nat.not_lt_zero _), fun k hk => absurd hk (Nat.not_lt_zero _), fun i hi => absurd hi (Nat.not_lt_zero _), fun _ _ => ⟨h, mh_Kin.rfl, fun i hi => absurd hi (Nat.not_lt_zero _)⟩⟩
theorem mh_S0.set {o : Nat} {ql : List Nat} {ad : Nat → Nat} {h : mh_H} {e : mh_E} (hl : ql.length ≤ 15) (S : mh_S0 o ql ad h) : mh_S0 o ql ad (mh_up h o e) := by
  obtain ⟨s1, s2, s3, s4⟩ := S
  refine ⟨s1, fun k hk => ⟨by rw [mh_up_ne (s2 k hk).2]; exact (s2 k hk).1, (s2 k hk).2⟩, s3, fun ad' ha => ?_⟩
  obtain ⟨hs, k1, k2⟩ := s4 ad' ha
  refine ⟨mh_up hs o e, fun a => ?_, fun i hi => ?_⟩
  · by_cases z : a = o
    · rw [z, mh_up_eq, mh_up_eq]
      exact Or.inl rfl
    · rw [mh_up_ne z, mh_up_ne z]
      exact k1 a
  · refine mh_cc_keep (by omega) (fun k _ k4 => mh_up_ne ?_) (k2 i hi)
    have hk : k < mh_rg ql.length := Nat.lt_of_lt_of_le k4 (mh_rg_mo (by omega) (by omega))
    rw [ha k hk]
    exact (s2 k hk).2
theorem mh_S0.step {o : Nat} {ql : List Nat} {ad : Nat → Nat} {h h' : mh_H} {q : Nat} {e : mh_E} {p : Nat} (hj : ql.length < 15) (S : mh_S0 o ql ad h) (ho : h o ≠ none) (hq : h q = none) (hp : mh_rg ql.length + p = mh_obi ql.length) (B : mh_Bk (mh_up h q e) q h' ql.length p) : h' o = h o ∧ ∃ ad', mh_S0 o (ql ++ [q]) ad' h' := by
  obtain ⟨s1, s2, s3, s4⟩ := S
  obtain ⟨bf, b1, b2, b3, b4, b5⟩ := B
  have g := mh_rg_le (show ql.length < 16 by omega)
  have kp : ∀ x, h x ≠ none → h' x = h x := fun x hx => by
    have xq : x ≠ q := fun z => hx (z ▸ hq)
    rw [b4 x xq (by rw [mh_up_ne xq]; exact hx), mh_up_ne xq]
  have fr : ∀ i, i < mh_rg (ql.length + 1) - mh_rg ql.length → h (bf i) = none := fun i hi => by
    by_cases z : bf i = q
    · rw [z]; exact hq
    · rcases (b3 i hi).1 with w | w
      · exact absurd w z
      · rwa [mh_up_ne z] at w
  obtain ⟨ad2, ha1, ha2⟩ : ∃ ad2 : Nat → Nat, (∀ k, k < mh_rg ql.length → ad2 k = ad k) ∧ ∀ i, ad2 (mh_rg ql.length + i) = bf i := ⟨fun k => if k < mh_rg ql.length then ad k else bf (k - mh_rg ql.length), fun k hk => if_pos hk, fun i => by
    show (if mh_rg ql.length + i < mh_rg ql.length then _ else _) = _
    rw [if_neg (by omega), Nat.add_sub_cancel_left]⟩
  refine ⟨kp o ho, ad2, ?_⟩
  unfold mh_S0
  rw [List.length_append, show [q].length = 1 from rfl]
  refine ⟨fun i j hi hj2 e => ?_, fun k hk => ?_, fun i hi => ?_, fun ad3 ha3 => ?_⟩
  · by_cases h1 : i < mh_rg ql.length
    · by_cases h2 : j < mh_rg ql.length
      · rw [ha1 i h1, ha1 j h2] at e
        exact s1 i j h1 h2 e
      · obtain ⟨j', rfl⟩ : ∃ j', j = mh_rg ql.length + j' := ⟨j - mh_rg ql.length, by omega⟩
        rw [ha1 i h1, ha2] at e
        exact absurd (fr j' (by omega)) (by rw [← e]; exact (s2 i h1).1)
    · obtain ⟨i', rfl⟩ : ∃ i', i = mh_rg ql.length + i' := ⟨i - mh_rg ql.length, by omega⟩
      by_cases h2 : j < mh_rg ql.length
      · rw [ha1 j h2, ha2] at e
        exact absurd (fr i' (by omega)) (by rw [e]; exact (s2 j h2).1)
      · obtain ⟨j', rfl⟩ : ∃ j', j = mh_rg ql.length + j' := ⟨j - mh_rg ql.length, by omega⟩
        rw [ha2, ha2] at e
        rw [b1 i' j' (by omega) (by omega) e]
  · by_cases h1 : k < mh_rg ql.length
    · rw [ha1 k h1]
      exact ⟨by rw [kp _ (s2 k h1).1]; exact (s2 k h1).1, (s2 k h1).2⟩
    · obtain ⟨k', rfl⟩ : ∃ k', k = mh_rg ql.length + k' := ⟨k - mh_rg ql.length, by omega⟩
      rw [ha2]
      exact ⟨(b3 k' (by omega)).2, fun z => ho (by rw [← z]; exact fr k' (by omega))⟩
  · by_cases z : i = ql.length
    · rw [z, ← hp, ha2, b2, List.getD_eq_getElem?_getD, List.getElem?_append_right (Nat.le_refl _), Nat.sub_self]
      rfl
    · have hi2 : i < ql.length := by omega
      have h1 : mh_obi i < mh_rg ql.length := Nat.lt_of_lt_of_le (mh_obi_lt (by omega)) (mh_rg_mo (by omega) (by omega))
      rw [ha1 _ h1, s3 i hi2, List.getD_eq_getElem?_getD, List.getD_eq_getElem?_getD, List.getElem?_append_left hi2]
  · obtain ⟨hs, k1, k2⟩ := s4 ad3 (fun k hk => (ha3 k (by omega)).trans (ha1 k hk))
    obtain ⟨hb, k3, k4⟩ := b5 ad3 (fun i hi => (ha3 (mh_rg ql.length + i) (by omega)).trans (ha2 i))
    obtain ⟨hm, m1, m2⟩ : ∃ hm : mh_H, (∀ a, h a = none → hm a = hb a) ∧ ∀ a, h a ≠ none → hm a = hs a := ⟨fun a => match h a with
      | none => hb a
      | some _ => hs a, fun a ha => by
        show (match h a with
          | none => hb a
          | some _ => hs a) = hb a
        rw [ha], fun a ha => by
        show (match h a with
          | none => hb a
          | some _ => hs a) = hs a
        cases hh : h a with
        | none => exact absurd hh ha
        | some x => rfl⟩
    refine ⟨hm, fun a => ?_, fun i hi => ?_⟩
    · by_cases z : h a = none
      · rw [m1 a z]; exact k3 a
      · rw [m2 a z, kp a z]; exact k1 a
    · by_cases z : i = ql.length
      · rw [z]
        refine mh_cc_keep (by omega) (fun k q1 q2 => m1 _ ?_) k4
        obtain ⟨k', rfl⟩ : ∃ k', k = mh_rg ql.length + k' := ⟨k - mh_rg ql.length, by omega⟩
        rw [ha3 _ q2, ha2]
        exact fr k' (by omega)
      · have hi2 : i < ql.length := by omega
        refine mh_cc_keep (by omega) (fun k q1 q2 => m2 _ ?_) (k2 i hi2)
        have hk : k < mh_rg ql.length := Nat.lt_of_lt_of_le q2 (mh_rg_mo (by omega) (by omega))
        rw [ha3 k (by omega), ha1 k hk]
        exact (s2 k hk).1
theorem mh_S0.fin {o : Nat} {ad : Nat → Nat} {h : mh_H} {q0 q1 q2 q3 q4 q5 q6 q7 q8 q9 q10 q11 q12 q13 q14 : Nat} (S : mh_S0 o [q0, q1, q2, q3, q4, q5, q6, q7, q8, q9, q10, q11, q12, q13, q14] ad h) (ho : h o = some (.inr (11, [.ref q0, .ref q1, .ref q2, .ref q3, .ref q4, .ref q5, .ref q6, .ref q7, .ref q8, .ref q9, .ref q10, .ref q11, .ref q12, .ref q13, .ref q14, .int 0]))) : ∃ ad2 h2, mh_Kin h h2 ∧ ad2 1289 = o ∧ mh_CI h2 ad2 mh_s0 ∧ ∀ k, k < 1290 → h2 (ad2 k) ≠ none := by
  obtain ⟨s1, s2, s3, s4⟩ := S
  have s1 : mh_Inj ad 1289 := s1
  have s2 : ∀ k, k < 1289 → h (ad k) ≠ none ∧ ad k ≠ o := s2
  obtain ⟨ad2, e1, e2⟩ : ∃ ad2 : Nat → Nat, ad2 1289 = o ∧ ∀ k, k < 1289 → ad2 k = ad k := ⟨fun k => if k = 1289 then o else ad k, if_pos rfl, fun k hk => if_neg (by omega)⟩
  obtain ⟨hs, k1, k2⟩ := s4 ad2 e2
  have o1 := k1.ob ho
  have z0 : ad2 1008 = q0 := (e2 1008 (by omega)).trans (s3 0 (Nat.le_of_ble_eq_true rfl))
  have z1 : ad2 1011 = q1 := (e2 1011 (by omega)).trans (s3 1 (Nat.le_of_ble_eq_true rfl))
  have z2 : ad2 1017 = q2 := (e2 1017 (by omega)).trans (s3 2 (Nat.le_of_ble_eq_true rfl))
  have z3 : ad2 1020 = q3 := (e2 1020 (by omega)).trans (s3 3 (Nat.le_of_ble_eq_true rfl))
  have z4 : ad2 1023 = q4 := (e2 1023 (by omega)).trans (s3 4 (Nat.le_of_ble_eq_true rfl))
  have z5 : ad2 1026 = q5 := (e2 1026 (by omega)).trans (s3 5 (Nat.le_of_ble_eq_true rfl))
  have z6 : ad2 1031 = q6 := (e2 1031 (by omega)).trans (s3 6 (Nat.le_of_ble_eq_true rfl))
  have z7 : ad2 1033 = q7 := (e2 1033 (by omega)).trans (s3 7 (Nat.le_of_ble_eq_true rfl))
  have z8 : ad2 1050 = q8 := (e2 1050 (by omega)).trans (s3 8 (Nat.le_of_ble_eq_true rfl))
  have z9 : ad2 1258 = q9 := (e2 1258 (by omega)).trans (s3 9 (Nat.le_of_ble_eq_true rfl))
  have z10 : ad2 1265 = q10 := (e2 1265 (by omega)).trans (s3 10 (Nat.le_of_ble_eq_true rfl))
  have z11 : ad2 1271 = q11 := (e2 1271 (by omega)).trans (s3 11 (Nat.le_of_ble_eq_true rfl))
  have z12 : ad2 1277 = q12 := (e2 1277 (by omega)).trans (s3 12 (Nat.le_of_ble_eq_true rfl))
  have z13 : ad2 1281 = q13 := (e2 1281 (by omega)).trans (s3 13 (Nat.le_of_ble_eq_true rfl))
  have z14 : ad2 1285 = q14 := (e2 1285 (by omega)).trans (s3 14 (Nat.le_of_ble_eq_true rfl))
  refine ⟨ad2, hs, k1, e1, ⟨fun i j hi hj e => ?_, fun i hi => ?_⟩, fun k hk => ?_⟩
  · by_cases h1 : i = 1289
    · by_cases h2 : j = 1289
      · rw [h1, h2]
      · rw [h1, e1, e2 j (by omega)] at e
        exact absurd e.symm (s2 j (by omega)).2
    · by_cases h2 : j = 1289
      · rw [h2, e1, e2 i (by omega)] at e
        exact absurd e (s2 i (by omega)).2
      · rw [e2 i (by omega), e2 j (by omega)] at e
        exact s1 i j (by omega) (by omega) e
  · by_cases z : i = 15
    · rw [z]
      show hs (ad2 1289) = some (.inr (11, [.ref (ad2 1008), .ref (ad2 1011), .ref (ad2 1017), .ref (ad2 1020), .ref (ad2 1023), .ref (ad2 1026), .ref (ad2 1031), .ref (ad2 1033), .ref (ad2 1050), .ref (ad2 1258), .ref (ad2 1265), .ref (ad2 1271), .ref (ad2 1277), .ref (ad2 1281), .ref (ad2 1285), .int (mh_bz false)]))
      rw [e1, z0, z1, z2, z3, z4, z5, z6, z7, z8, z9, z10, z11, z12, z13, z14, o1]
      rfl
    · exact k2 i (show i < 15 by omega)
  · by_cases z : k = 1289
    · rw [z, e1, o1]
      exact fun w => by cases w
    · rw [e2 k (by omega)]
      exact k1.nn (s2 k (by omega)).1
