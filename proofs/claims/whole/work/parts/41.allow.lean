def mh_AI (m st wt : Nat) (w0 : Nat → Nat) (L a i T : Nat) (f : Nat → Int32) (w : Nat → Nat) : Prop :=
  (∀ r, r < m → f r = nI (w r)) ∧ (∀ r, w r ≤ w0 r) ∧ mh_So m st wt w0 w T ∧ mh_Dn m st wt w0 w a i ∧ ∀ b, b < a → mh_Dn m st wt w0 w b (2 * L)
section MhAllow
variable {h : mh_H} {o v m st wt g L a B T0 : Nat} {w0 : Nat → Nat}
theorem mh_allow_step (k35 : Nat → Int32 → Int32 → Int32 → Int32 → Int32 → mh_H → Option mh_H) (h1 : h o = some (.inr (0, [.ref v, .int (nI m)]))) (hov : o ≠ v) (m1 : 1 ≤ m) (m2 : m ≤ 300) (hst : st ≤ 300) (hwI : ∀ r, r < m → w0 r ≤ mh_INF) (hB : ∀ r, r < m → w0 r ≠ mh_INF → w0 r ≤ B) (hBW : B + 601 * wt < mh_INF)
    {n i : Nat} {f : Nat → Int32} {w : Nat → Nat} (hi : i < 2 * L) (hT : T0 + 2 * L ≤ 600) (hI : mh_AI m st wt w0 L a i (T0 + i) f w) :
    ∃ f' w', mh_AI m st wt w0 L a (i + 1) (T0 + (i + 1)) f' w' ∧ f_X0_allow_b48 k35 (n + 1) o (nI st) (nI wt) (nI g) (nI (2 * L)) (nI a) (nI ((a + i * st) % m)) (nI i) (mh_up h v (.inl (0, 300, .inl f))) = f_X0_allow_b48 k35 n o (nI st) (nI wt) (nI g) (nI (2 * L)) (nI a) (nI ((a + (i + 1) * st) % m)) (nI (i + 1)) (mh_up h v (.inl (0, 300, .inl f'))) := by
  obtain ⟨j1, j2, j3, j4, j5⟩ := hI
  have hh : (a + i * st) % m < m := Nat.mod_lt _ m1
  have en : (a + (i + 1) * st) % m = ((a + i * st) % m + st) % m := by
    rw [Nat.mod_add_mod, Nat.succ_mul, Nat.add_assoc]
  have hiw := Nat.mul_le_mul_right wt (show i ≤ 600 by omega)
  have hiw2 := Nat.mul_le_mul_right wt (show T0 + i ≤ 600 by omega)
  have hnext : mh_AI m st wt w0 L a (i + 1) (T0 + (i + 1)) (if w ((a + i * st) % m) ≠ mh_INF ∧ w ((a + i * st) % m) + wt < w (((a + i * st) % m + st) % m) then upd f (((a + i * st) % m + st) % m) (nI (w ((a + i * st) % m) + wt)) else f) (mh_rlx w ((a + i * st) % m) (((a + i * st) % m + st) % m) wt) := by
    refine ⟨fun r hr => ?_, fun r => Nat.le_trans (mh_rlx_le _ _ _ _ _) (j2 r), ?_, ?_, fun b hb => mh_Dn_mono (j5 b hb) (mh_rlx_le _ _ _ _)⟩
    · unfold mh_rlx
      by_cases hc : w ((a + i * st) % m) ≠ mh_INF ∧ w ((a + i * st) % m) + wt < w (((a + i * st) % m + st) % m)
      · rw [if_pos hc, if_pos hc]
        by_cases hn : r = ((a + i * st) % m + st) % m
        · rw [hn, pk_us, mh_un_s]
        · rw [pk_un hn, mh_un_n hn]
          exact j1 r hr
      · rw [if_neg hc, if_neg hc]
        exact j1 r hr
    · exact mh_So_rx m1 j3 hh
    · exact mh_Dn_rx j4 j2 hB m1 (by omega)
  refine ⟨_, _, hnext, ?_⟩
  have hnx : ((a + i * st) % m + st) % m < m := Nat.mod_lt _ m1
  have a1 : (mh_up h v (.inl (0, 300, .inl f))) o = some (.inr (0, [.ref v, .int (nI m)])) := by rw [mh_up_ne hov]; exact h1
  have a2 : (mh_up h v (.inl (0, 300, .inl f))) v = some (.inl (0, 300, .inl f)) := mh_up_eq _ _ _
  have hwh := Nat.le_trans (j2 ((a + i * st) % m)) (hwI _ hh)
  have hwn := Nat.le_trans (j2 (((a + i * st) % m + st) % m)) (hwI _ hnx)
  have hI2 : mh_INF < 2 ^ 31 := by unfold mh_INF; omega
  have c1 : ¬ nI (2 * L) ≤ nI i := fun q => absurd ((nI_leI (by omega) (by omega)).mp q) (by omega)
  have c2 : ¬ nI m = 0 := nI_ne0 (by omega) (by omega)
  have e3 : mh_irem (nI ((a + i * st) % m) + nI st) (nI m) = nI (((a + i * st) % m + st) % m) := by
    show nI ((a + i * st) % m) + nI st - (nI ((a + i * st) % m) + nI st) / nI m * nI m = _
    rw [nI_add, pk_rem (by omega) (by omega) (by omega)]
  rw [f_X0_allow_b48, if_neg c1, mh_gI_eq a1 rfl, Option.bind_some, mh_nz_eq c2, mh_nm_eq, e3, mh_gR_eq a1 rfl, Option.bind_some, mh_aI_eq a2 (by omega) (by omega), Option.bind_some, j1 _ hh, en]
  by_cases hc0 : w ((a + i * st) % m) = mh_INF
  · rw [if_pos (by rw [hc0]; rfl), if_neg (fun q => q.1 hc0)]
    unfold f_X0_allow_b113
    rw [mh_nm_eq, mh_inc]
  · have hs := j3 _ hh hc0
    obtain ⟨k, r0, s1, s2, s3, s4, s5⟩ := hs
    have hbk := hB r0 s2 s3
    have hkw := Nat.mul_le_mul_right wt s1
    rw [if_neg (by rw [mh_nI_inf, nI_eq (by omega) hI2]; exact hc0)]
    simp only [Option.bind_some]
    rw [mh_aI_eq a2 (show (a + i * st) % m < 300 by omega) (by omega), mh_aI_eq a2 (show ((a + i * st) % m + st) % m < 300 by omega) (by omega)]
    simp only [Option.bind_some]
    rw [j1 _ hh, j1 _ hnx, nI_add]
    by_cases hc1 : w ((a + i * st) % m) + wt < w (((a + i * st) % m + st) % m)
    · rw [if_neg (fun q => absurd ((nI_leI (by omega) (by omega)).mp q) (by omega)), mh_sI_eq a2 (by omega) (by omega), Option.bind_some, mh_up_up, if_pos ⟨hc0, hc1⟩]
      unfold f_X0_allow_b113
      rw [mh_nm_eq, mh_inc]
    · rw [if_pos ((nI_leI (by omega) (by omega)).mpr (by omega)), if_neg (fun q => hc1 q.2)]
      unfold f_X0_allow_b113
      rw [mh_nm_eq, mh_inc]
theorem mh_allow_in (k35 : Nat → Int32 → Int32 → Int32 → Int32 → Int32 → mh_H → Option mh_H) (h1 : h o = some (.inr (0, [.ref v, .int (nI m)]))) (hov : o ≠ v) (m1 : 1 ≤ m) (m2 : m ≤ 300) (hst : st ≤ 300) (hwI : ∀ r, r < m → w0 r ≤ mh_INF) (hB : ∀ r, r < m → w0 r ≠ mh_INF → w0 r ≤ B) (hBW : B + 601 * wt < mh_INF)
    {f : Nat → Int32} {w : Nat → Nat} (hT : T0 + 2 * L ≤ 600) (ha : a < m) (hI : mh_AI m st wt w0 L a 0 T0 f w) :
    ∃ s : (Nat → Int32) × (Nat → Nat), mh_AI m st wt w0 L a (2 * L) (T0 + 2 * L) s.1 s.2 ∧ f_X0_allow_b48 k35 mh_fu o (nI st) (nI wt) (nI g) (nI (2 * L)) (nI a) (nI a) 0 (mh_up h v (.inl (0, 300, .inl f))) = k35 o (nI st) (nI wt) (nI g) (nI (2 * L)) (nI (a + 1)) (mh_up h v (.inl (0, 300, .inl s.1))) := by
  have key := mh_wh (fun n (s : Nat × (Nat → Int32) × (Nat → Nat)) => f_X0_allow_b48 k35 n o (nI st) (nI wt) (nI g) (nI (2 * L)) (nI a) (nI ((a + s.1 * st) % m)) (nI s.1) (mh_up h v (.inl (0, 300, .inl s.2.1))))
    (fun (s : (Nat → Int32) × (Nat → Nat)) => k35 o (nI st) (nI wt) (nI g) (nI (2 * L)) (nI (a + 1)) (mh_up h v (.inl (0, 300, .inl s.1))))
    (fun s => s.1 ≤ 2 * L ∧ mh_AI m st wt w0 L a s.1 (T0 + s.1) s.2.1 s.2.2) (fun s => 2 * L - s.1) (fun s => mh_AI m st wt w0 L a (2 * L) (T0 + 2 * L) s.1 s.2)
    (fun n s hs => by
      obtain ⟨i, f, w⟩ := s
      obtain ⟨s1, s2⟩ := hs
      have s1 : i ≤ 2 * L := s1
      by_cases hi : i < 2 * L
      · obtain ⟨f', w', q1, q2⟩ := mh_allow_step (n := n) (g := g) k35 h1 hov m1 m2 hst hwI hB hBW hi hT s2
        exact Or.inl ⟨(i + 1, f', w'), ⟨hi, q1⟩, by show 2 * L - (i + 1) < 2 * L - i; omega, q2⟩
      · have e : i = 2 * L := by omega
        subst e
        refine Or.inr ⟨(f, w), s2, ?_⟩
        show f_X0_allow_b48 k35 (n + 1) _ _ _ _ _ _ _ _ _ = _
        rw [f_X0_allow_b48, if_pos ((nI_leI (by omega) (by omega)).mpr (Nat.le_refl _))]
        unfold f_X0_allow_b123
        rw [mh_nm_eq, mh_inc])
    (2 * L) mh_fu (0, f, w) (by show 2 * L - 0 ≤ 2 * L; omega) ⟨Nat.zero_le _, hI⟩ (mh_fuel _ (by omega))
  simp only [Nat.zero_mul, Nat.add_zero, Nat.mod_eq_of_lt ha, nI_0] at key
  exact key
theorem mh_fx0_allow {f : Nat → Int32} (hc : mh_Cl h o v m f w0) (hst : st ≤ 300) (hB : ∀ r, r < m → w0 r ≠ mh_INF → w0 r ≤ B) (hBW : B + 601 * wt < mh_INF) :
    ∃ f' w', f_X0_allow_e o (nI st) (nI wt) h = some (mh_up h v (.inl (0, 300, .inl f'))) ∧ mh_Cl (mh_up h v (.inl (0, 300, .inl f'))) o v m f' w' ∧ (∃ T, mh_So m st wt w0 w' T) ∧ ∀ r k, r < m → w0 r ≠ mh_INF → w' ((r + k * st) % m) ≤ w0 r + k * wt := by
  have hov := hc.ne
  obtain ⟨h1, h2, m1, m2, h5⟩ := hc
  have hgp : 0 < Nat.gcd (st % m) m := Nat.gcd_pos_of_pos_right _ m1
  have hgd : Nat.gcd (st % m) m ∣ m := Nat.gcd_dvd_right _ _
  have hgl := Nat.le_of_dvd m1 hgd
  have hmg : m / Nat.gcd (st % m) m * Nat.gcd (st % m) m = m := Nat.div_mul_cancel hgd
  have hLp : 0 < m / Nat.gcd (st % m) m := Nat.div_pos hgl hgp
  have hLl : m / Nat.gcd (st % m) m ≤ m := Nat.div_le_self _ _
  have hLm : m ∣ m / Nat.gcd (st % m) m * st := by
    have hd : Nat.gcd (st % m) m ∣ st := by
      have := Nat.gcd_dvd_left m st
      rw [Nat.gcd_rec] at this
      have h3 : Nat.gcd (st % m) m ∣ st := by
        have := Nat.gcd_dvd_right m st
        rw [Nat.gcd_rec] at this
        exact this
      exact h3
    obtain ⟨q, hq⟩ := hd
    refine ⟨q, ?_⟩
    calc m / Nat.gcd (st % m) m * st = m / Nat.gcd (st % m) m * (Nat.gcd (st % m) m * q) := by rw [← hq]
      _ = m * q := by rw [← Nat.mul_assoc, hmg]
  have fin : ∀ f' w', mh_AI m st wt w0 (m / Nat.gcd (st % m) m) (Nat.gcd (st % m) m) 0 (Nat.gcd (st % m) m * (2 * (m / Nat.gcd (st % m) m))) f' w' → mh_Cl (mh_up h v (.inl (0, 300, .inl f'))) o v m f' w' ∧ (∃ T, mh_So m st wt w0 w' T) ∧ ∀ r k, r < m → w0 r ≠ mh_INF → w' ((r + k * st) % m) ≤ w0 r + k * wt := fun f' w' hA => by
    obtain ⟨j1, j2, j3, j4, j5⟩ := hA
    exact ⟨⟨by rw [mh_up_ne hov]; exact h1, mh_up_eq _ _ _, m1, m2, fun r hr => ⟨j1 r hr, Nat.le_trans (j2 r) (h5 r hr).2⟩⟩, ⟨_, j3⟩, fun r k hr hw => mh_allowed m1 hLp hLm j5 hr hw⟩
  unfold f_X0_allow_e
  rw [mh_gI_eq h1 rfl, Option.bind_some, mh_nz_eq (nI_ne0 (by omega) (by omega)), Option.bind_some]
  show ∃ f' w', mh_b2 (f_X11_greatestCommon_e (nI st - nI st / nI m * nI m) (nI m) h) _ = _ ∧ _
  have hsm : st % m < 2 ^ 31 := Nat.lt_of_lt_of_le (Nat.mod_lt _ m1) (by omega)
  rw [pk_rem (by omega) (by omega) (by omega), mh_b2_eq (mh_fx11_gcd h hsm (by omega)), if_neg (nI_nle hgp (by omega)), mh_gI_eq h1 rfl, Option.bind_some, mh_nz_eq (nI_ne0 hgp (by omega))]
  have e2 : (2 : Int32) * (nI m / nI (Nat.gcd (st % m) m)) = nI (2 * (m / Nat.gcd (st % m) m)) := by
    rw [pk_div (by omega) hgp (by omega)]
    exact mh_nI_mul 2 _
  rw [e2]
  unfold f_X0_allow_b30
  rw [mh_nm_eq]
  have hgm2 : Nat.gcd (st % m) m * (2 * (m / Nat.gcd (st % m) m)) = 2 * m := by
    rw [Nat.mul_left_comm, Nat.mul_comm (Nat.gcd (st % m) m), hmg]
  have key := mh_wh (fun n (s : Nat × (Nat → Int32) × (Nat → Nat)) => f_X0_allow_b35 n o (nI st) (nI wt) (nI (Nat.gcd (st % m) m)) (nI (2 * (m / Nat.gcd (st % m) m))) (nI s.1) (mh_up h v (.inl (0, 300, .inl s.2.1))))
    (fun (s : (Nat → Int32) × (Nat → Nat)) => some (mh_up h v (.inl (0, 300, .inl s.1))))
    (fun s => s.1 ≤ Nat.gcd (st % m) m ∧ mh_AI m st wt w0 (m / Nat.gcd (st % m) m) s.1 0 (s.1 * (2 * (m / Nat.gcd (st % m) m))) s.2.1 s.2.2) (fun s => Nat.gcd (st % m) m - s.1) (fun s => mh_AI m st wt w0 (m / Nat.gcd (st % m) m) (Nat.gcd (st % m) m) 0 (Nat.gcd (st % m) m * (2 * (m / Nat.gcd (st % m) m))) s.1 s.2)
    (fun n s hs => by
      obtain ⟨i, f, w⟩ := s
      obtain ⟨s1, s2⟩ := hs
      have s1 : i ≤ Nat.gcd (st % m) m := s1
      have s2 : mh_AI m st wt w0 (m / Nat.gcd (st % m) m) i 0 (i * (2 * (m / Nat.gcd (st % m) m))) f w := s2
      by_cases hi : i < Nat.gcd (st % m) m
      · have hT : i * (2 * (m / Nat.gcd (st % m) m)) + 2 * (m / Nat.gcd (st % m) m) ≤ 600 := by
          have := Nat.mul_le_mul_right (2 * (m / Nat.gcd (st % m) m)) (show i + 1 ≤ Nat.gcd (st % m) m by omega)
          rw [Nat.succ_mul, hgm2] at this
          omega
        obtain ⟨⟨f', w'⟩, q1, q2⟩ := mh_allow_in (g := Nat.gcd (st % m) m) (f_X0_allow_b35 n) h1 hov m1 m2 hst (fun r hr => (h5 r hr).2) hB hBW hT (by omega) s2
        have q1 : mh_AI m st wt w0 (m / Nat.gcd (st % m) m) i (2 * (m / Nat.gcd (st % m) m)) (i * (2 * (m / Nat.gcd (st % m) m)) + 2 * (m / Nat.gcd (st % m) m)) f' w' := q1
        refine Or.inl ⟨(i + 1, f', w'), ⟨hi, ?_⟩, by show Nat.gcd (st % m) m - (i + 1) < Nat.gcd (st % m) m - i; omega, ?_⟩
        · show mh_AI m st wt w0 (m / Nat.gcd (st % m) m) (i + 1) 0 ((i + 1) * (2 * (m / Nat.gcd (st % m) m))) f' w'
          rw [Nat.succ_mul]
          obtain ⟨j1, j2, j3, j4, j5⟩ := q1
          refine ⟨j1, j2, j3, mh_Dn_0 j2, fun b hb => ?_⟩
          by_cases hbi : b = i
          · rw [hbi]; exact j4
          · exact j5 b (by omega)
        · show f_X0_allow_b35 (n + 1) _ _ _ _ _ _ _ = _
          rw [f_X0_allow_b35, if_neg (fun q => absurd ((nI_leI (by omega) (by omega)).mp q) (by omega)), mh_nm_eq]
          exact q2
      · have e : i = Nat.gcd (st % m) m := by omega
        refine Or.inr ⟨(f, w), by rw [e] at s2; exact s2, ?_⟩
        show f_X0_allow_b35 (n + 1) _ _ _ _ _ _ _ = _
        rw [f_X0_allow_b35, if_pos ((nI_leI (by omega) (by omega)).mpr (by show Nat.gcd (st % m) m ≤ i; omega))]
        rfl)
    (Nat.gcd (st % m) m) mh_fu (0, f, w0) (by show Nat.gcd (st % m) m - 0 ≤ _; omega)
    ⟨Nat.zero_le _, by
      show mh_AI m st wt w0 (m / Nat.gcd (st % m) m) 0 0 (0 * (2 * (m / Nat.gcd (st % m) m))) f w0
      refine ⟨fun r hr => (h5 r hr).1, fun r => Nat.le_refl _, fun r hr hw => ⟨0, r, Nat.zero_le _, hr, hw, ?_, ?_⟩, mh_Dn_0 (fun r => Nat.le_refl _), fun b hb => absurd hb (by omega)⟩
      · rw [Nat.zero_mul, Nat.add_zero, Nat.mod_eq_of_lt hr]
      · rw [Nat.zero_mul, Nat.add_zero]⟩
    (mh_fuel _ (by omega))
  obtain ⟨⟨f', w'⟩, q1, q2⟩ := key
  have q2 : f_X0_allow_b35 mh_fu o (nI st) (nI wt) (nI (Nat.gcd (st % m) m)) (nI (2 * (m / Nat.gcd (st % m) m))) (nI 0) (mh_up h v (.inl (0, 300, .inl f))) = some (mh_up h v (.inl (0, 300, .inl f'))) := q2
  rw [mh_up_id h2, nI_0] at q2
  exact ⟨f', w', q2, fin f' w' q1⟩
end MhAllow
