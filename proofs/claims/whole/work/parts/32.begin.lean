/-! History.begin: the eight mints and purses of the state that is now, copied to the next place of the ring -/
theorem mh_Hi.keep {h h' : mh_H} {o am ap : Nat} {km kp : Nat → Nat} {now beh ahd : Nat} (hh : mh_Hi h o am ap km kp now beh ahd) (e0 : h' o = h o) (e1 : h' am = h am) (e2 : h' ap = h ap) : mh_Hi h' o am ap km kp now beh ahd := ⟨e0.trans hh.1, e1.trans hh.2.1, e2.trans hh.2.2.1, hh.2.2.2⟩
theorem mh_lp_begin {ad : Nat → Nat} (hi : mh_Inj ad 1011) {now beh ahd nx : Nat} (hnx : nx < 21) (hne : nx ≠ now) {m c n : Nat → List Nat} : ∀ (d p k : Nat) (h : mh_H), mh_Hi h (ad 1008) (ad 1009) (ad 1010) (fun j => ad (6 * j)) (fun j => ad (6 * j + 2)) now beh ahd → (∀ i, i < 8 → mh_Sl h ad (now * 8 + i) (m i) (c i) (n i)) → (∀ i, i < 8 → ∃ m0 c0 n0, mh_Sl h ad (nx * 8 + i) m0 c0 n0) → 8 ≤ p + d → d < k → p ≤ 8 →
    ∃ h', f_X3_begin_b12 k (ad 1008) (nI nx) (nI p) h = f_X3_begin_b62 (ad 1008) (nI nx) h' ∧ (∀ i, p ≤ i → i < 8 → mh_Sl h' ad (nx * 8 + i) (m i) (c i) (n i)) ∧ ∀ b, (∀ i q, p ≤ i → i < 8 → q < 6 → b ≠ ad (6 * (nx * 8 + i) + q)) → h' b = h b := by
  have hi8 : mh_Inj ad 1008 := fun i j h1 h2 e => hi i j (by omega) (by omega) e
  intro d
  induction d with
  | zero =>
    intro p k h hh hs hd g1 g2 g3
    obtain ⟨k, rfl⟩ : ∃ j, k = j + 1 := ⟨k - 1, by omega⟩
    refine ⟨h, ?_, fun i q1 q2 => absurd q2 (by omega), fun _ _ => rfl⟩
    rw [f_X3_begin_b12, if_pos (show (8 : Int32) ≤ nI p from (nI_leI (a := 8) (by omega) (by omega)).mpr (by omega))]
  | succ d ih =>
    intro p k h hh hs hd g1 g2 g3
    obtain ⟨k, rfl⟩ : ∃ j, k = j + 1 := ⟨k - 1, by omega⟩
    have hn := hh.2.2.2.1
    by_cases hp : 8 ≤ p
    · refine ⟨h, ?_, fun i q1 q2 => absurd q2 (by omega), fun _ _ => rfl⟩
      rw [f_X3_begin_b12, if_pos (show (8 : Int32) ≤ nI p from (nI_leI (a := 8) (by omega) (by omega)).mpr (by omega))]
    · obtain ⟨m0, c0, n0, hd0⟩ := hd p (by omega)
      obtain ⟨h1, h2, e1, e2, e3, e4, e5⟩ := mh_slcopy (j := nx * 8 + p) (k := now * 8 + p) hi8 (by omega) (by omega) (by omega) (hs p (by omega)) hd0
      have far : ∀ x, x < 1011 → ¬ (6 * (nx * 8 + p) ≤ x ∧ x < 6 * (nx * 8 + p) + 6) → ∀ q, q < 6 → ad x ≠ ad (6 * (nx * 8 + p) + q) := fun x hx hq q hq6 => hi.ne hx (by omega) (by omega)
      have hh1 := hh.keep (e4 _ (far 1008 (by omega) (by omega))) (e4 _ (far 1009 (by omega) (by omega))) (e4 _ (far 1010 (by omega) (by omega)))
      have hh2 := hh.keep (e5 _ (far 1008 (by omega) (by omega))) (e5 _ (far 1009 (by omega) (by omega))) (e5 _ (far 1010 (by omega) (by omega)))
      obtain ⟨h', r1, r2, r3⟩ := ih (p + 1) k h2 hh2 (fun i hi2 => (hs i hi2).keep (fun q hq => e5 _ (far _ (by omega) (by omega)))) (fun i hi2 => by
        by_cases hip : i = p
        · subst hip
          exact ⟨_, _, _, e3⟩
        · obtain ⟨x1, x2, x3, hx⟩ := hd i hi2
          exact ⟨x1, x2, x3, hx.keep (fun q hq => e5 _ (far _ (by omega) (by omega)))⟩) (by omega) (by omega) (by omega)
      refine ⟨h', ?_, fun i q1 q2 => ?_, fun b hb => ?_⟩
      · have hn8 : ¬ (8 : Int32) ≤ nI p := fun q => hp ((nI_leI (a := 8) (by omega) (by omega)).mp q)
        have a1 : mh_aR h (ad 1009) 3 (nI nx * nI 8 + nI p) = some (ad (6 * (nx * 8 + p))) := by
          rw [mh_nI_mul, nI_add]
          exact mh_aR_eq hh.2.1 (by omega) (by omega) rfl
        have a2 : mh_aR h1 (ad 1010) 4 (nI nx * nI 8 + nI p) = some (ad (6 * (nx * 8 + p) + 2)) := by
          rw [mh_nI_mul, nI_add]
          exact mh_aR_eq hh1.2.2.1 (by omega) (by omega) rfl
        obtain ⟨⟨fd, cd⟩, fe, ge, pe⟩ := hd0
        have c1 : mh_cal h (ad (6 * (nx * 8 + p))) 1 (f_X1_copy_e (ad (6 * (nx * 8 + p))) (ad (6 * (now * 8 + p))) h) = some h1 := by rw [mh_cal_eq cd.1]; exact e1
        rw [f_X3_begin_b12, if_neg hn8, mh_gR_eq hh.1 rfl, Option.bind_some]
        show (mh_aR h (ad 1009) 3 (nI nx * nI 8 + nI p)).bind _ = _
        rw [a1, Option.bind_some, mh_cal_eq hh.1, mh_b2_eq (mh_fx3_mint hh (by omega)), c1, Option.bind_some, mh_gR_eq hh1.1 rfl, Option.bind_some]
        show (mh_aR h1 (ad 1010) 4 (nI nx * nI 8 + nI p)).bind _ = _
        have pe1 : mh_cal h1 (ad (6 * (nx * 8 + p) + 2)) 7 (f_X7_copy_e (ad (6 * (nx * 8 + p) + 2)) (ad (6 * (now * 8 + p) + 2)) h1) = some h2 := by
          have w : h1 (ad (6 * (nx * 8 + p) + 2)) = h (ad (6 * (nx * 8 + p) + 2)) := by
            obtain ⟨f', z1, z2⟩ := mh_fx1_copy cd (hs p (by omega)).1.choose_spec (hi8.ne (by omega) (by omega) (by omega)) (hi8.ne (by omega) (by omega) (by omega)) (hi8.ne (by omega) (by omega) (by omega)) (hi8.ne (by omega) (by omega) (by omega)) (hi8.ne (by omega) (by omega) (by omega))
            cases Option.some.inj (e1.symm.trans z1)
            rw [mh_up_ne (hi8.ne (by omega) (by omega) (by omega)), mh_up_ne (hi8.ne (by omega) (by omega) (by omega))]
          rw [mh_cal_eq (w.trans pe.1)]
          exact e2
        rw [a2, Option.bind_some, mh_cal_eq hh1.1, mh_b2_eq (mh_fx3_purse hh1 (by omega)), pe1, Option.bind_some]
        show f_X3_begin_b12 k (ad 1008) (nI nx) (nI p + Int32.ofInt 1) h2 = _
        rw [mh_inc]
        exact r1
      · by_cases hip : i = p
        · subst hip
          refine e3.keep (fun q hq => r3 _ (fun i2 q2 g4 g5 g6 => hi.ne (by omega) (by omega) (by omega)))
        · exact r2 i (by omega) q2
      · rw [r3 b (fun i q g4 g5 g6 => hb i q (by omega) g5 g6)]
        exact e5 b (fun q hq => hb p q (by omega) (by omega) hq)
