/-! Clock: the object at o, its weights at v -/
def mh_Cl (h : mh_H) (o v m : Nat) (f : Nat → Int32) (w : Nat → Nat) : Prop :=
  h o = some (.inr (0, [.ref v, .int (nI m)])) ∧ h v = some (.inl (0, 300, .inl f)) ∧ 1 ≤ m ∧ m ≤ 300 ∧ ∀ r, r < m → f r = nI (w r) ∧ w r ≤ mh_INF
theorem mh_Cl.keep {h h' : mh_H} {o v m : Nat} {f : Nat → Int32} {w : Nat → Nat} (hc : mh_Cl h o v m f w) (e0 : h' o = h o) (e1 : h' v = h v) : mh_Cl h' o v m f w := ⟨e0.trans hc.1, e1.trans hc.2.1, hc.2.2⟩
theorem mh_Cl.ne {h : mh_H} {o v m : Nat} {f : Nat → Int32} {w : Nat → Nat} (hc : mh_Cl h o v m f w) : o ≠ v := mh_apt hc.1 hc.2.1 (fun q => by cases q)
theorem mh_fx0_modulus {h : mh_H} {o v m : Nat} {f : Nat → Int32} {w : Nat → Nat} (hc : mh_Cl h o v m f w) : f_X0_modulus_e o h = some (nI m, h) := by
  unfold f_X0_modulus_e
  rw [mh_gI_eq hc.1 rfl]
  rfl
theorem mh_fx0_weight {h : mh_H} {o v m : Nat} {f : Nat → Int32} {w : Nat → Nat} (hc : mh_Cl h o v m f w) {r : Nat} (hr : r < m) : f_X0_weight_e o (nI r) h = some (nI (w r), h) := by
  obtain ⟨h1, h2, h3, h4, h5⟩ := hc
  unfold f_X0_weight_e
  rw [if_neg (nI_pos (by omega)), mh_gI_eq h1 rfl, Option.bind_some, if_neg (fun q => absurd ((nI_leI (by omega) (by omega)).mp q) (by omega)), mh_gR_eq h1 rfl, Option.bind_some, mh_aI_eq h2 (by omega) (by omega), Option.bind_some, (h5 r hr).1]
  rfl
theorem mh_nI_inf : (2147483647 : Int32) = nI mh_INF := rfl
theorem mh_fx0_start {h : mh_H} {o v : Nat} {f : Nat → Int32} {x : Int32} (h1 : h o = some (.inr (0, [.ref v, .int x]))) (h2 : h v = some (.inl (0, 300, .inl f))) {m : Nat} (hm : 1 ≤ m) (hm2 : m ≤ 300) :
    ∃ f', f_X0_start_e o (nI m) h = some (mh_up (mh_up h o (.inr (0, [.ref v, .int (nI m)]))) v (.inl (0, 300, .inl f'))) ∧ mh_Cl (mh_up (mh_up h o (.inr (0, [.ref v, .int (nI m)]))) v (.inl (0, 300, .inl f'))) o v m f' (fun r => if r = 0 then 0 else mh_INF) := by
  have hov : o ≠ v := mh_apt h1 h2 (fun q => by cases q)
  have e1 : (if (300 : Int32) < nI m then (300 : Int32) else nI m) = nI m := if_neg (fun q => absurd ((nI_ltI (a := 300) (by omega) (by omega)).mp q) (by omega))
  have e2 : (if (1 : Int32) < nI m then nI m else (1 : Int32)) = nI m := by
    by_cases hq : 1 < m
    · rw [if_pos ((mh_ltl (a := 1) 1 rfl (by omega) (by omega)).mpr hq)]
    · rw [if_neg (fun q => hq ((mh_ltl (a := 1) 1 rfl (by omega) (by omega)).mp q)), show m = 1 by omega]
      rfl
  unfold f_X0_start_e
  rw [e1, e2, mh_pI_s [.ref v, .int (nI m)] h1 ⟨Nat.le_of_ble_eq_true rfl, rfl⟩, Option.bind_some]
  have a1 : (mh_up h o (.inr (0, [.ref v, .int (nI m)]))) o = some (.inr (0, [.ref v, .int (nI m)])) := mh_up_eq _ _ _
  have a2 : (mh_up h o (.inr (0, [.ref v, .int (nI m)]))) v = some (.inl (0, 300, .inl f)) := by rw [mh_up_ne hov.symm]; exact h2
  show ∃ f', (mh_gR (mh_up h o (.inr (0, [.ref v, .int (nI m)]))) o 0 0).bind _ = _ ∧ _
  rw [mh_gR_eq a1 rfl, Option.bind_some]
  obtain ⟨f1, q1, q2⟩ := mh_fj7_fill a2 (by omega) 2147483647
  rw [q1, Option.bind_some]
  have a3 : (mh_up (mh_up h o (.inr (0, [.ref v, .int (nI m)]))) v (.inl (0, 300, .inl f1))) o = some (.inr (0, [.ref v, .int (nI m)])) := by rw [mh_up_ne hov]; exact a1
  rw [mh_gR_eq a3 rfl, Option.bind_some]
  have e3 := mh_sI_eq (v := (0 : Int32)) (mh_up_eq (mh_up h o (.inr (0, [.ref v, .int (nI m)]))) v (.inl (0, 300, .inl f1))) (j := 0) (by omega) (by omega)
  rw [nI_0] at e3
  rw [e3, Option.bind_some, mh_up_up]
  refine ⟨upd f1 0 0, rfl, ?_, mh_up_eq _ _ _, hm, hm2, fun r hr => ?_⟩
  · rw [mh_up_ne hov]; exact a1
  · by_cases hr0 : r = 0
    · show _ = nI (if r = 0 then 0 else mh_INF) ∧ (if r = 0 then 0 else mh_INF) ≤ mh_INF
      rw [if_pos hr0, hr0, pk_us]
      exact ⟨nI_0.symm, by unfold mh_INF; omega⟩
    · show _ = nI (if r = 0 then 0 else mh_INF) ∧ (if r = 0 then 0 else mh_INF) ≤ mh_INF
      rw [pk_un hr0, q2 r (by omega), if_neg hr0]
      exact ⟨rfl, Nat.le_refl _⟩
