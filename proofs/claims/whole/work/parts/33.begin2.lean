theorem mh_b62 {h : mh_H} {o am ap : Nat} {km kp : Nat → Nat} {now beh ahd nx : Nat} (hh : mh_Hi h o am ap km kp now beh ahd) : f_X3_begin_b62 o (nI nx) h = some (mh_up h o (mh_Hs am ap nx (min (beh + 1) 20) 0)) := by
  have hb := hh.2.2.2.2.1
  have e : (if (20 : Int32) < nI beh + 1 then (20 : Int32) else nI beh + 1) = nI (min (beh + 1) 20) := by
    rw [nI_1]
    by_cases h1 : 20 < beh + 1
    · rw [if_pos (show (20 : Int32) < nI (beh + 1) from (nI_ltI (a := 20) (by omega) (by omega)).mpr h1), Nat.min_eq_right (by omega)]
      rfl
    · have hn : ¬ (20 : Int32) < nI (beh + 1) := fun q => h1 ((nI_ltI (a := 20) (by omega) (by omega)).mp q)
      rw [if_neg hn, Nat.min_eq_left (by omega)]
  unfold f_X3_begin_b62
  rw [mh_pI_eq hh.1 (Nat.le_of_ble_eq_true rfl), Option.bind_some, mh_gI_eq (mh_up_eq _ _ _) rfl, Option.bind_some, e, mh_pI_eq (mh_up_eq _ _ _) (Nat.le_of_ble_eq_true rfl), Option.bind_some, mh_pI_eq (mh_up_eq _ _ _) (Nat.le_of_ble_eq_true rfl), Option.bind_some, mh_up_up, mh_up_up]
  rfl
theorem mh_fx3_begin {h : mh_H} {ad : Nat → Nat} (hi : mh_Inj ad 1011) {now beh ahd : Nat} {m c n : Nat → List Nat} (hh : mh_Hi h (ad 1008) (ad 1009) (ad 1010) (fun j => ad (6 * j)) (fun j => ad (6 * j + 2)) now beh ahd) (hs : ∀ i, i < 8 → mh_Sl h ad (now * 8 + i) (m i) (c i) (n i)) (hd : ∀ i, i < 8 → ∃ m0 c0 n0, mh_Sl h ad ((now + 1) % 21 * 8 + i) m0 c0 n0) :
    ∃ h', f_X3_begin_e (ad 1008) h = some h' ∧ mh_Hi h' (ad 1008) (ad 1009) (ad 1010) (fun j => ad (6 * j)) (fun j => ad (6 * j + 2)) ((now + 1) % 21) (min (beh + 1) 20) 0 ∧ (∀ i, i < 8 → mh_Sl h' ad ((now + 1) % 21 * 8 + i) (m i) (c i) (n i)) ∧ ∀ b, b ≠ ad 1008 → (∀ i q, i < 8 → q < 6 → b ≠ ad (6 * ((now + 1) % 21 * 8 + i) + q)) → h' b = h b := by
  have hn := hh.2.2.2.1
  obtain ⟨h1, r1, r2, r3⟩ := mh_lp_begin hi (nx := (now + 1) % 21) (by omega) (by omega) 8 0 mh_fu h hh hs hd (by omega) (mh_fuel 8 (by omega)) (by omega)
  have hk : ∀ x, 1008 ≤ x → x < 1011 → h1 (ad x) = h (ad x) := fun x q1 q2 => r3 _ (fun i q g1 g2 g3 => hi.ne q2 (by omega) (by omega))
  have hh1 := hh.keep (hk 1008 (by omega) (by omega)) (hk 1009 (by omega) (by omega)) (hk 1010 (by omega) (by omega))
  refine ⟨mh_up h1 (ad 1008) (mh_Hs (ad 1009) (ad 1010) ((now + 1) % 21) (min (beh + 1) 20) 0), ?_, hh1.turn (hi.ne (by omega) (by omega) (by omega)) (hi.ne (by omega) (by omega) (by omega)) (by omega) (by omega) (by omega), fun i g1 => (r2 i (by omega) g1).keep (fun q hq => mh_up_ne (hi.ne (by omega) (by omega) (by omega))), fun b g1 g2 => by rw [mh_up_ne g1]; exact r3 b (fun i q _ q2 q3 => g2 i q q2 q3)⟩
  have e21 : mh_irem (nI now + (1 : Int32)) (21 : Int32) = nI ((now + 1) % 21) := by
    show (nI now + 1) - (nI now + 1) / nI 21 * nI 21 = _
    rw [nI_1, pk_rem (by omega) (by omega) (by omega)]
  unfold f_X3_begin_e
  rw [mh_gI_eq hh.1 rfl, Option.bind_some]
  unfold mh_nz
  rw [if_neg (by decide), e21]
  unfold mh_nm
  rw [← nI_0]
  dsimp only
  rw [r1, mh_b62 hh1]
