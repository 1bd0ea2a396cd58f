section MhModelB2
variable {h : mh_H} {bd : Nat → Nat} {σ : mh_Sg} {F : Nat → Int32}
/-- the cases change -/
theorem mh_RI.cas (hR : mh_RI h bd σ F) {h' : mh_H} {F' : Nat → Int32} {lk : Nat} (hlk : lk ≤ 2000) (h23 : F' 23 = nI lk) (hF : ∀ j, j ≠ 0 → j ≠ 14 → j ≠ 22 → j ≠ 23 → j ≠ 26 → j ≠ 27 → j ≠ 28 → F' j = F j) (ho : h' (bd 0) = some (.inr (12, mh_rf bd F'))) (hf : ∀ b, b ≠ bd 0 → (∀ k, 59 ≤ k → k < 65 → b ≠ bd k) → h' b = h b) (hc : mh_rc bd σ F' 8 h') : mh_RI h' bd (mh_setc σ lk) F' ∧ mh_frR bd h h' := by
  obtain ⟨i1, i2, i3, i4, i5⟩ := hR.ii
  refine hR.mul [0, 8] (fun i hi => by simp only [List.mem_cons, List.not_mem_nil, or_false] at hi; omega) (fun b hb => hf b (hb 0 (by decide) 0 (by decide) (by decide)) (fun k k1 k2 => hb 8 (by decide) k k1 k2)) (fun i hi => ?_) (fun j hj hn q => ?_)
  · simp only [List.mem_cons, List.not_mem_nil, or_false] at hi
    rcases hi with e | e
    · subst e
      exact ⟨ho, by rw [hF 3 (by omega) (by omega) (by omega) (by omega) (by omega) (by omega) (by omega)]; exact i1, by rw [hF 4 (by omega) (by omega) (by omega) (by omega) (by omega) (by omega) (by omega)]; exact i2, by rw [hF 5 (by omega) (by omega) (by omega) (by omega) (by omega) (by omega) (by omega)]; exact i3, ⟨h23, hlk⟩, by rw [hF 15 (by omega) (by omega) (by omega) (by omega) (by omega) (by omega) (by omega)]; exact i5⟩
    · subst e
      exact hc
  · simp only [List.mem_cons, List.not_mem_nil, or_false] at hn
    obtain rfl | rfl | rfl | rfl | rfl | rfl | rfl | rfl | rfl : j = 1 ∨ j = 2 ∨ j = 3 ∨ j = 4 ∨ j = 5 ∨ j = 6 ∨ j = 7 ∨ j = 9 ∨ j = 10 := by omega
    · exact q
    · exact q
    · obtain ⟨fb, G, h1, h2, h3, h4⟩ := q
      exact ⟨fb, G, h1, h2, h3, by rw [hF 7 (by omega) (by omega) (by omega) (by omega) (by omega) (by omega) (by omega)]; exact h4⟩
    · exact q
    · exact q
    · exact q
    · obtain ⟨f1, f2, h1, h2, h3⟩ := q
      exact ⟨f1, f2, h1, h2, by rw [hF 16 (by omega) (by omega) (by omega) (by omega) (by omega) (by omega) (by omega)]; exact h3⟩
    · exact q
    · exact q
theorem mh_r_bcopy {L : List Nat} {x3 : Int32} {fo f0 : Nat → Int32} (hI : mh_Inj bd 99) (ho : h (bd 0) = some (.inr (12, mh_rf bd F))) (hl : L.length ≤ 6) (hf : h (bd 63) = some (.inl (0, 6, .inl fo))) (hfv : ∀ i, i < L.length → fo i = nI (L.getD i 0)) (hg : h (bd 56) = some (.inl (0, 24, .inl f0))) : ∃ h' g, f_X12_best_b106 mh_fu (bd 0) (nI L.length) x3 0 h = f_X12_best_b132 (bd 0) x3 h' ∧ h' (bd 56) = some (.inl (0, 24, .inl g)) ∧ mh_fr [bd 56] h h' ∧ ∀ i, i < L.length → g i = nI (L.getD i 0) := by
  have key := mh_wh (fun m (q : Nat × mh_H) => f_X12_best_b106 m (bd 0) (nI L.length) x3 (nI q.1) q.2) (fun (r : mh_H) => f_X12_best_b132 (bd 0) x3 r) (fun q => q.1 ≤ L.length ∧ mh_fr [bd 56] h q.2 ∧ ∃ g, q.2 (bd 56) = some (.inl (0, 24, .inl g)) ∧ ∀ i, i < q.1 → g i = nI (L.getD i 0)) (fun q => L.length - q.1) (fun r => mh_fr [bd 56] h r ∧ ∃ g, r (bd 56) = some (.inl (0, 24, .inl g)) ∧ ∀ i, i < L.length → g i = nI (L.getD i 0))
    (fun m q hq => by
      obtain ⟨k, hh⟩ := q
      obtain ⟨q1, q2, g, q3, q4⟩ := hq
      have q1 : k ≤ L.length := q1
      have q2 : mh_fr [bd 56] h hh := q2
      have q3 : hh (bd 56) = some (.inl (0, 24, .inl g)) := q3
      have q4 : ∀ i, i < k → g i = nI (L.getD i 0) := q4
      show (∃ s', _ ∧ _ ∧ f_X12_best_b106 (m + 1) (bd 0) (nI L.length) x3 (nI k) hh = _) ∨ ∃ r, _ ∧ f_X12_best_b106 (m + 1) (bd 0) (nI L.length) x3 (nI k) hh = _
      have ho' := (q2 (bd 0) (by simp [hI.ne (show 0 < 99 by omega) (show 56 < 99 by omega) (by omega)])).trans ho
      have hf' := (q2 (bd 63) (by simp [hI.ne (show 63 < 99 by omega) (show 56 < 99 by omega) (by omega)])).trans hf
      rw [f_X12_best_b106]
      by_cases c : k < L.length
      · left
        refine ⟨(k + 1, mh_up hh (bd 56) (.inl (0, 24, .inl (upd g k (nI (L.getD k 0)))))), ⟨c, q2.trans (mh_fr.up List.mem_cons_self), _, mh_up_eq _ _ _, fun i hi => ?_⟩, by show L.length - (k + 1) < L.length - k; omega, ?_⟩
        · have hi : i < k + 1 := hi
          by_cases e : i = k
          · rw [e, pk_us]
          · rw [pk_un e]; exact q4 i (by omega)
        · rw [if_neg (fun q => absurd ((nI_leI (by omega) (by omega)).mp q) (by omega)), mh_gR_eq (k := 13) ho' rfl, Option.bind_some, mh_gR_eq (k := 25) ho' rfl, Option.bind_some, mh_aI_eq hf' (show k < 6 by omega) (by omega), Option.bind_some, hfv k c, mh_sI_eq q3 (by omega) (by omega), Option.bind_some, mh_nm_eq, mh_inc]
      · right
        have e : k = L.length := by omega
        subst e
        exact ⟨hh, ⟨q2, g, q3, q4⟩, by rw [if_pos ((nI_leI (by omega) (by omega)).mpr (by omega))]⟩)
    6 mh_fu (0, h) (by show L.length - 0 ≤ 6; omega) ⟨Nat.zero_le _, mh_fr.rfl, f0, hg, fun i hi => absurd hi (Nat.not_lt_zero i)⟩ (mh_fuel _ (by omega))
  obtain ⟨h', ⟨z1, g, z2, z3⟩, z4⟩ := key
  exact ⟨h', g, z4, z2, z1, z3⟩
theorem mh_M_best (hR : mh_RI h bd σ F) (x1 x2 x3 : Int32) : ∃ r v h' σ' F', f_X12_best_e (bd 0) x1 x2 x3 h = some (v, h') ∧ mh_Sbest σ x1 x2 x3 r σ' ∧ mh_an r v F' ∧ mh_RI h' bd σ' F' ∧ mh_frR bd h h' := by
  obtain ⟨h1, F1, p1, R1, z1, f1⟩ := mh_r_code hR
  unfold f_X12_best_e
  rw [p1, Option.bind_some]
  rcases mh_r_isMint (h := h1) x3 with ⟨p, a1, a2, a3⟩ | ⟨a1, a3⟩
  · subst a2
    rw [mh_b2_eq a3, if_neg (by decide)]
    have bad : (∀ K H, 1 ≤ K → K ≤ 6 → 1 ≤ H → H ≤ 12 → ¬ (x1 = nI K ∧ x2 = nI H)) → ∃ r v h' σ' F', f_X12_best_b40 (bd 0) h1 = some (v, h') ∧ mh_Sbest σ x1 x2 (nI p) r σ' ∧ mh_an r v F' ∧ mh_RI h' bd σ' F' ∧ mh_frR bd h h' := fun hb => by
      obtain ⟨h2, F2, y1, R2, z2, f2⟩ := mh_r_fl R1 2 (fun v12 h11 => some (v12, h11))
      exact ⟨.inl 2, _, h2, σ, F2, y1, Or.inr ⟨p, a1, rfl, Or.inr ⟨hb, rfl, rfl⟩⟩, Or.inr ⟨2, rfl, z2⟩, R2, f1.trans f2⟩
    rcases mh_sgn x1 with ⟨q1, q2⟩ | ⟨q1, K, q2, q3⟩
    · rw [if_pos (Int32.lt_trans q1 (by decide))]
      exact bad (fun K H _ k2 _ _ e => q2 K (by omega) e.1)
    · subst q3
      by_cases k0 : K < 1
      · rw [if_pos ((mh_ltr (b := 1) 1 rfl (by omega) (by omega)).mpr k0)]
        refine bad (fun K' H k1 k2 _ _ q => ?_)
        have := (nI_eq (by omega) (by omega)).mp q.1
        omega
      · rw [if_neg (fun q => k0 ((mh_ltr (b := 1) 1 rfl (by omega) (by omega)).mp q))]
        by_cases k6 : 6 < K
        · rw [if_pos ((mh_ltl (a := 6) 6 rfl (by omega) (by omega)).mpr k6)]
          refine bad (fun K' H k1 k2 _ _ q => ?_)
          have := (nI_eq (by omega) (by omega)).mp q.1
          omega
        · rw [if_neg (fun q => k6 ((mh_ltl (a := 6) 6 rfl (by omega) (by omega)).mp q))]
          rcases mh_sgn x2 with ⟨r1, r2⟩ | ⟨r1, H, r2, r3⟩
          · rw [if_pos (Int32.lt_trans r1 (by decide))]
            exact bad (fun K' H _ _ _ k4 e => r2 H (by omega) e.2)
          · subst r3
            by_cases d0 : H < 1
            · rw [if_pos ((mh_ltr (b := 1) 1 rfl (by omega) (by omega)).mpr d0)]
              refine bad (fun K' H' _ _ k3 k4 q => ?_)
              have := (nI_eq (by omega) (by omega)).mp q.2
              omega
            · rw [if_neg (fun q => d0 ((mh_ltr (b := 1) 1 rfl (by omega) (by omega)).mp q))]
              by_cases d3 : H ≤ 12
              · rw [if_pos ((mh_ler (b := 12) 12 rfl (by omega) (by omega)).mpr d3)]
                have hI := R1.1
                obtain ⟨t1, t2, t3, t4, t5, t6, k1, k2, k3, k4, k5, kk6⟩ := R1.2 8 (by omega)
                -- the fields of a new search
                obtain ⟨G1, eG1⟩ : ∃ G1, G1 = upd F1 23 0 := ⟨_, rfl⟩
                obtain ⟨G2, eG2⟩ : ∃ G2, G2 = upd G1 26 0 := ⟨_, rfl⟩
                obtain ⟨G3, eG3⟩ : ∃ G3, G3 = upd G2 27 (nI K) := ⟨_, rfl⟩
                obtain ⟨G4, eG4⟩ : ∃ G4, G4 = upd G3 28 (nI H) := ⟨_, rfl⟩
                obtain ⟨w1, ew1⟩ : ∃ w1, w1 = mh_up h1 (bd 0) (.inr (12, mh_rf bd G1)) := ⟨_, rfl⟩
                have m1 : mh_pI h1 (bd 0) 12 23 0 = some w1 := by rw [ew1, eG1]; exact mh_pI_s _ R1.ob ⟨show 23 < 38 by omega, rfl⟩
                have ob1 : w1 (bd 0) = some (.inr (12, mh_rf bd G1)) := by rw [ew1]; exact mh_up_eq _ _ _
                obtain ⟨w2, ew2⟩ : ∃ w2, w2 = mh_up w1 (bd 0) (.inr (12, mh_rf bd G2)) := ⟨_, rfl⟩
                have m2 : mh_pI w1 (bd 0) 12 26 0 = some w2 := by rw [ew2, eG2]; exact mh_pI_s _ ob1 ⟨show 26 < 38 by omega, rfl⟩
                have ob2 : w2 (bd 0) = some (.inr (12, mh_rf bd G2)) := by rw [ew2]; exact mh_up_eq _ _ _
                obtain ⟨w3, ew3⟩ : ∃ w3, w3 = mh_up w2 (bd 0) (.inr (12, mh_rf bd G3)) := ⟨_, rfl⟩
                have m3 : mh_pI w2 (bd 0) 12 27 (nI K) = some w3 := by rw [ew3, eG3]; exact mh_pI_s _ ob2 ⟨show 27 < 38 by omega, rfl⟩
                have ob3 : w3 (bd 0) = some (.inr (12, mh_rf bd G3)) := by rw [ew3]; exact mh_up_eq _ _ _
                obtain ⟨w4, ew4⟩ : ∃ w4, w4 = mh_up w3 (bd 0) (.inr (12, mh_rf bd G4)) := ⟨_, rfl⟩
                have m4 : mh_pI w3 (bd 0) 12 28 (nI H) = some w4 := by rw [ew4, eG4]; exact mh_pI_s _ ob3 ⟨show 28 < 38 by omega, rfl⟩
                have ob4 : w4 (bd 0) = some (.inr (12, mh_rf bd G4)) := by rw [ew4]; exact mh_up_eq _ _ _
                have off4 : ∀ b, b ≠ bd 0 → w4 b = h1 b := fun b hb => by rw [ew4, mh_up_ne hb, ew3, mh_up_ne hb, ew2, mh_up_ne hb, ew1, mh_up_ne hb]
                have g23 : G4 23 = nI 0 := by rw [eG4, pk_un (by omega), eG3, pk_un (by omega), eG2, pk_un (by omega), eG1, pk_us]; rfl
                have g26 : G4 26 = nI 0 := by rw [eG4, pk_un (by omega), eG3, pk_un (by omega), eG2, pk_us]; rfl
                have g27 : G4 27 = nI K := by rw [eG4, pk_un (by omega), eG3, pk_us]
                have g28 : G4 28 = nI H := by rw [eG4, pk_us]
                have goff : ∀ j, j ≠ 23 → j ≠ 26 → j ≠ 27 → j ≠ 28 → G4 j = F1 j := fun j n1 n2 n3 n4 => by rw [eG4, pk_un n4, eG3, pk_un n3, eG2, pk_un n2, eG1, pk_un n1]
                have ky4 : ∀ y, y < 99 → y ≠ 0 → w4 (bd y) = h1 (bd y) := fun y hy e => off4 _ (hI.ne hy (by omega) e)
                obtain ⟨w5, ew5⟩ : ∃ w5, w5 = mh_up w4 (bd 62) (.inl (0, 6, .inl (upd t4 0 1))) := ⟨_, rfl⟩
                have m5 : mh_sI w4 (bd 62) (0 : Int32) (1 : Int32) = some w5 := by rw [ew5]; exact mh_sI_eq (j := 0) ((ky4 62 (by omega) (by omega)).trans k4) (by omega) (by omega)
                have ky5 : ∀ y, y < 99 → y ≠ 62 → w5 (bd y) = w4 (bd y) := fun y hy e => by rw [ew5]; exact mh_up_ne (hI.ne hy (by omega) e)
                have ob5 := (ky5 0 (by omega) (by omega)).trans ob4
                have hm1 : mh_ms [1] := ⟨⟨by show 1 ≤ 12; omega, fun x hx => by rw [List.mem_singleton.mp hx]; omega⟩, List.pairwise_singleton _ _⟩
                have S5 : mh_Sh w4 w5 bd G4 K [1] (0, 0, []) := ⟨by rw [ew5]; exact mh_fr.up (by simp), ⟨G4, ob5, g23, g26, fun _ _ _ => rfl⟩, ⟨upd t4 0 1, by rw [ew5]; exact mh_up_eq _ _ _, fun i hi => by
                  have hi : i < 1 := hi
                  rw [show i = 0 by omega, pk_us]
                  rfl⟩, ⟨t5, ((ky5 63 (by omega) (by omega)).trans (ky4 63 (by omega) (by omega))).trans k5, Or.inl rfl⟩, ⟨t6, ((ky5 64 (by omega) (by omega)).trans (ky4 64 (by omega) (by omega))).trans kk6⟩, Nat.zero_le _, Nat.zero_le _⟩
                obtain ⟨w6, y1, S6⟩ := mh_r_search (h := w4) (F := G4) (K := K) (H := H) hI (by omega) d3 g27 g28 (K - 1) 20 [1] (0, 0, []) w5 (by omega) (by show 1 + (K - 1) = K; omega) hm1 (by simp) (Nat.zero_le _) S5
                have y1 : f_X12_search_d 20 (bd 0) (1 : Int32) w5 = some w6 := y1
                rw [m1, Option.bind_some, m2, Option.bind_some, m3, Option.bind_some, m4, Option.bind_some, mh_gR_eq (k := 24) ob4 rfl, Option.bind_some, m5, Option.bind_some, mh_cal_eq ob5, y1, Option.bind_some]
                have good : ∀ r σ', (((mh_se H (K - 1) [1] (0, 0, [])).1 ≤ 2000 ∧ r = .inr (nI (mh_se H (K - 1) [1] (0, 0, [])).2.1) ∧ σ' = mh_setm (mh_bg (mh_setc σ (mh_se H (K - 1) [1] (0, 0, [])).1)) (mh_nx σ * 8 + p) (mh_se H (K - 1) [1] (0, 0, [])).2.2) ∨ (2000 < (mh_se H (K - 1) [1] (0, 0, [])).1 ∧ r = .inr (-2) ∧ σ' = mh_setc σ 2000)) → mh_Sbest σ (nI K) (nI H) (nI p) r σ' := fun r σ' hr => Or.inr ⟨p, a1, rfl, Or.inl ⟨K, H, by omega, by omega, by omega, d3, rfl, rfl, hr⟩⟩
                have got := mh_se_got (H := H) (by omega) (K - 1) [1] (0, 0, []) hm1 (by simp) (by show 1 + (K - 1) ≤ 12; omega) (by show 1 + (K - 1) ≤ 299; omega) (by
                  show 1 ≤ mh_rh [1] H
                  exact mh_rh_app (b := []) (c := 1) hm1 mh_ms_nil (by omega) (by omega)) (Or.inr rfl)
                obtain ⟨ST, eST⟩ : ∃ ST, ST = mh_se H (K - 1) [1] (0, 0, []) := ⟨_, rfl⟩
                rw [← eST] at S6 good got
                obtain ⟨s1, ⟨F6, o1, o2, o3, o4⟩, ⟨ft, s2, _⟩, ⟨fo, s3, s4⟩, ⟨fr, s5⟩, s6, s7⟩ := S6
                rw [mh_gI_eq (k := 23) o1 rfl, Option.bind_some, o2]
                have offF : ∀ j, j ≠ 0 → j ≠ 14 → j ≠ 22 → j ≠ 23 → j ≠ 26 → j ≠ 27 → j ≠ 28 → F6 j = F1 j := fun j _ _ _ n1 n2 n3 n4 => (o4 j n1 n2).trans (goff j n1 n2 n3 n4)
                have kyx : ∀ y, y < 99 → y ≠ 0 → y ≠ 62 → y ≠ 63 → y ≠ 64 → w6 (bd y) = h1 (bd y) := fun y hy n0 n1 n2 n3 => (s1 _ (by simp [hI.ne hy (show 0 < 99 by omega) n0, hI.ne hy (show 62 < 99 by omega) n1, hI.ne hy (show 63 < 99 by omega) n2, hI.ne hy (show 64 < 99 by omega) n3])).trans (ky4 y hy n0)
                have offb : ∀ b, b ≠ bd 0 → (∀ k, 59 ≤ k → k < 65 → b ≠ bd k) → w6 b = h1 b := fun b b0 bk => (s1 b (by simp [b0, bk 62 (by omega) (by omega), bk 63 (by omega) (by omega), bk 64 (by omega) (by omega)])).trans (off4 b b0)
                have c8 : mh_rc bd σ F6 8 w6 := ⟨t1, t2, t3, ft, fo, fr, (kyx 59 (by omega) (by omega) (by omega) (by omega) (by omega)).trans k1, (kyx 60 (by omega) (by omega) (by omega) (by omega) (by omega)).trans k2, (kyx 61 (by omega) (by omega) (by omega) (by omega) (by omega)).trans k3, s2, s3, s5⟩
                have zz : F6 0 = 0 := ((o4 0 (by omega) (by omega)).trans (goff 0 (by omega) (by omega) (by omega) (by omega))).trans z1
                by_cases c : ST.1 ≤ 2000
                · obtain ⟨R6, f6⟩ := R1.cas (h' := w6) (F' := F6) c o2 offF o1 offb c8
                  have gn := got c
                  obtain ⟨l1, l2, l3⟩ := s4.resolve_left gn
                  obtain ⟨p7, R7, f7⟩ := R6.fld (k := 14) (nI K) (Or.inr (Or.inl rfl))
                  obtain ⟨w7, e7⟩ : ∃ w7, w7 = mh_up w6 (bd 0) (.inr (12, mh_rf bd (upd F6 14 (nI K)))) := ⟨_, rfl⟩
                  rw [← e7] at p7 R7 f7
                  obtain ⟨f0, hf0⟩ := R7.2 6 (by omega)
                  have k63 : w7 (bd 63) = some (.inl (0, 6, .inl fo)) := by rw [e7, mh_up_ne (hI.ne (by omega) (by omega) (by omega))]; exact s3
                  obtain ⟨w8, g8, u1, u2, u3, u4⟩ := mh_r_bcopy (x3 := nI p) (L := ST.2.2) R7.1 R7.ob (by omega) k63 (fun i hi => l3 i (by omega)) hf0
                  obtain ⟨R8, f8⟩ := R7.one (h' := w8) 6 (by omega) (fun b hb => u3 b (by simp [hb 56 (by decide) (by decide)])) ⟨g8, u2⟩
                  obtain ⟨w9, F9, v1, R9, v3, f9⟩ := mh_r_becomes R8 (L := ST.2.2) ⟨by rw [pk_us, l1], g8, u2, u4⟩ l2 a1
                  rw [l1] at u1
                  have e26 : F9 26 = nI ST.2.1 := by rw [v3 26 (by omega) (by omega) (by omega), pk_un (by omega)]; exact o3
                  rw [if_pos ((mh_ler (b := 2000) 2000 rfl (by omega) (by omega)).mpr c), p7, Option.bind_some, mh_nm_eq, u1]
                  unfold f_X12_best_b132
                  rw [mh_cal_eq R8.ob, mh_b2_eq v1, mh_gI_eq (k := 26) R9.ob rfl, Option.bind_some, e26]
                  exact ⟨.inr (nI ST.2.1), _, w9, _, F9, rfl, good _ _ (Or.inl ⟨c, rfl, rfl⟩), Or.inl ⟨rfl, by rw [v3 0 (by omega) (by omega) (by omega), pk_un (by omega)]; exact zz⟩, R9, f1.trans (f6.trans (f7.trans (f8.trans f9)))⟩
                · have p7 : mh_pI w6 (bd 0) 12 23 (nI 2000) = some (mh_up w6 (bd 0) (.inr (12, mh_rf bd (upd F6 23 (nI 2000))))) := mh_pI_s _ o1 ⟨show 23 < 38 by omega, rfl⟩
                  have p7 : mh_pI w6 (bd 0) 12 23 (2000 : Int32) = _ := p7
                  obtain ⟨w7, e7⟩ : ∃ w7, w7 = mh_up w6 (bd 0) (.inr (12, mh_rf bd (upd F6 23 (nI 2000)))) := ⟨_, rfl⟩
                  rw [← e7] at p7
                  have kz : ∀ b, b ≠ bd 0 → w7 b = w6 b := fun b hb => by rw [e7]; exact mh_up_ne hb
                  obtain ⟨R7, f7⟩ := R1.cas (h' := w7) (F' := upd F6 23 (nI 2000)) (lk := 2000) (Nat.le_refl _) pk_us (fun j n0 n1 n2 n3 n4 n5 n6 => by rw [pk_un n3]; exact offF j n0 n1 n2 n3 n4 n5 n6) (by rw [e7]; exact mh_up_eq _ _ _) (fun b b0 bk => (kz b b0).trans (offb b b0 bk)) (by
                    obtain ⟨c1, c2, c3, c4, c5, c6⟩ := c8.choose_spec.choose_spec.choose_spec.choose_spec.choose_spec.choose_spec
                    exact ⟨_, _, _, _, _, _, (kz _ (hI.ne (by omega) (by omega) (by omega))).trans c1, (kz _ (hI.ne (by omega) (by omega) (by omega))).trans c2, (kz _ (hI.ne (by omega) (by omega) (by omega))).trans c3, (kz _ (hI.ne (by omega) (by omega) (by omega))).trans c4, (kz _ (hI.ne (by omega) (by omega) (by omega))).trans c5, (kz _ (hI.ne (by omega) (by omega) (by omega))).trans c6⟩)
                  rw [if_neg (fun q => c ((mh_ler (b := 2000) 2000 rfl (by omega) (by omega)).mp q)), p7, Option.bind_some]
                  exact ⟨.inr (-2), _, w7, _, upd F6 23 (nI 2000), rfl, good _ _ (Or.inr ⟨by omega, rfl, rfl⟩), Or.inl ⟨rfl, by rw [pk_un (by omega)]; exact zz⟩, R7, f1.trans f7⟩
              · rw [if_neg (fun q => d3 ((mh_ler (b := 12) 12 rfl (by omega) (by omega)).mp q))]
                refine bad (fun K' H' _ _ k3 k4 q => ?_)
                have := (nI_eq (by omega) (by omega)).mp q.2
                omega
  · obtain ⟨h2, F2, y1, R2, z2, f2⟩ := mh_r_fl R1 1 (fun v12 h11 => some (v12, h11))
    have y1 : mh_b2 (mh_cal h1 (bd 0) 12 (f_X12_fail_e (bd 0) (1 : Int32) h1)) _ = _ := y1
    rw [mh_b2_eq a3, if_pos rfl, y1]
    exact ⟨.inl 1, _, h2, σ, F2, rfl, Or.inl ⟨a1, rfl, rfl⟩, Or.inr ⟨1, rfl, z2⟩, R2, f1.trans f2⟩
end MhModelB2
