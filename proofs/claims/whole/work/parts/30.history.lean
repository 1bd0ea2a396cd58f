/-! History: the object at o, its rows of mints at am and of purses at ap; km, kp: where the mints and purses lie -/
def mh_Hs (am ap now beh ahd : Nat) : mh_E := .inr (3, [.ref am, .ref ap, .int (nI now), .int (nI beh), .int (nI ahd)])
def mh_Hi (h : mh_H) (o am ap : Nat) (km kp : Nat → Nat) (now beh ahd : Nat) : Prop :=
  h o = some (mh_Hs am ap now beh ahd) ∧ h am = some (.inl (3, 168, .inr (.inr (.inr (.inr (fun j => some (km j))))))) ∧ h ap = some (.inl (4, 168, .inr (.inr (.inr (.inr (fun j => some (kp j))))))) ∧ now < 21 ∧ beh ≤ 20 ∧ ahd ≤ 20
section MhHist
variable {h : mh_H} {o am ap : Nat} {km kp : Nat → Nat} {now beh ahd : Nat}
theorem mh_fx3_mint (hh : mh_Hi h o am ap km kp now beh ahd) {p : Nat} (hp : p < 8) : f_X3_mint_e o (nI p) h = some (km (now * 8 + p), h) := by
  have hn := hh.2.2.2.1
  unfold f_X3_mint_e
  rw [mh_gR_eq hh.1 rfl, Option.bind_some, mh_gI_eq hh.1 rfl, Option.bind_some]
  show (mh_aR h am 3 (nI now * nI 8 + nI p)).bind _ = _
  rw [mh_nI_mul, nI_add, mh_aR_eq hh.2.1 (by omega) (by omega) rfl]
  rfl
theorem mh_fx3_purse (hh : mh_Hi h o am ap km kp now beh ahd) {p : Nat} (hp : p < 8) : f_X3_purse_e o (nI p) h = some (kp (now * 8 + p), h) := by
  have hn := hh.2.2.2.1
  unfold f_X3_purse_e
  rw [mh_gR_eq hh.1 rfl, Option.bind_some, mh_gI_eq hh.1 rfl, Option.bind_some]
  show (mh_aR h ap 4 (nI now * nI 8 + nI p)).bind _ = _
  rw [mh_nI_mul, nI_add, mh_aR_eq hh.2.2.1 (by omega) (by omega) rfl]
  rfl
theorem mh_Hi.turn (hh : mh_Hi h o am ap km kp now beh ahd) (h1 : o ≠ am) (h2 : o ≠ ap) {n2 b2 a2 : Nat} (q1 : n2 < 21) (q2 : b2 ≤ 20) (q3 : a2 ≤ 20) : mh_Hi (mh_up h o (mh_Hs am ap n2 b2 a2)) o am ap km kp n2 b2 a2 :=
  ⟨mh_up_eq _ _ _, by rw [mh_up_ne h1.symm]; exact hh.2.1, by rw [mh_up_ne h2.symm]; exact hh.2.2.1, q1, q2, q3⟩
theorem mh_fx3_back0 (hh : mh_Hi h o am ap km kp now 0 ahd) : f_X3_back_e o h = some (0, h) := by
  unfold f_X3_back_e
  rw [mh_gI_eq hh.1 rfl, Option.bind_some, if_pos nI_0]
  rfl
theorem mh_fx3_back (hh : mh_Hi h o am ap km kp now (beh + 1) ahd) : f_X3_back_e o h = some (1, mh_up h o (mh_Hs am ap ((now + 20) % 21) beh (ahd + 1))) := by
  have hn := hh.2.2.2.1
  have hb := hh.2.2.2.2.1
  unfold f_X3_back_e
  rw [mh_gI_eq hh.1 rfl, Option.bind_some, if_neg (nI_ne0 (by omega) (by omega)), mh_gI_eq hh.1 rfl, Option.bind_some]
  unfold mh_nz
  rw [if_neg (by decide)]
  show (mh_pI h o 3 2 ((nI now + nI 21 - 1) - (nI now + nI 21 - 1) / nI 21 * nI 21)).bind _ = _
  rw [nI_add, show now + 21 = (now + 20) + 1 from rfl, nI_pred, pk_rem (by omega) (by omega) (by omega), mh_pI_eq hh.1 (Nat.le_of_ble_eq_true rfl), Option.bind_some, mh_gI_eq (mh_up_eq _ _ _) rfl, Option.bind_some, mh_pI_eq (mh_up_eq _ _ _) (Nat.le_of_ble_eq_true rfl), Option.bind_some, mh_gI_eq (mh_up_eq _ _ _) rfl, Option.bind_some, mh_pI_eq (mh_up_eq _ _ _) (Nat.le_of_ble_eq_true rfl), Option.bind_some, mh_up_up, mh_up_up, nI_pred, nI_1]
  rfl
theorem mh_fx3_forth0 (hh : mh_Hi h o am ap km kp now beh 0) : f_X3_forth_e o h = some (0, h) := by
  unfold f_X3_forth_e
  rw [mh_gI_eq hh.1 rfl, Option.bind_some, if_pos nI_0]
  rfl
theorem mh_fx3_forth (hh : mh_Hi h o am ap km kp now beh (ahd + 1)) : f_X3_forth_e o h = some (1, mh_up h o (mh_Hs am ap ((now + 1) % 21) (beh + 1) ahd)) := by
  have hn := hh.2.2.2.1
  have hb := hh.2.2.2.2.2
  unfold f_X3_forth_e
  rw [mh_gI_eq hh.1 rfl, Option.bind_some, if_neg (nI_ne0 (by omega) (by omega)), mh_gI_eq hh.1 rfl, Option.bind_some]
  unfold mh_nz
  rw [if_neg (by decide)]
  show (mh_pI h o 3 2 ((nI now + 1) - (nI now + 1) / nI 21 * nI 21)).bind _ = _
  rw [nI_1, pk_rem (by omega) (by omega) (by omega), mh_pI_eq hh.1 (Nat.le_of_ble_eq_true rfl), Option.bind_some, mh_gI_eq (mh_up_eq _ _ _) rfl, Option.bind_some, mh_pI_eq (mh_up_eq _ _ _) (Nat.le_of_ble_eq_true rfl), Option.bind_some, mh_gI_eq (mh_up_eq _ _ _) rfl, Option.bind_some, mh_pI_eq (mh_up_eq _ _ _) (Nat.le_of_ble_eq_true rfl), Option.bind_some, mh_up_up, mh_up_up, nI_pred, nI_1]
  rfl
end MhHist
