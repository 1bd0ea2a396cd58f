section MhMul
variable {h : mh_H} {ad : Nat → Nat} {σ : mh_Sg}
theorem mh_rg_sep {i j k m : Nat} (hi : i < 16) (hj : j < 16) (e : j ≠ i) (k1 : mh_rg j ≤ k) (k2 : k < mh_rg (j + 1)) (m1 : mh_rg i ≤ m) (m2 : m < mh_rg (i + 1)) : k ≠ m := by
  intro q
  subst q
  rcases Nat.lt_or_gt_of_ne e with q | q
  · have := mh_rg_mono (i - (j + 1)) (j + 1) (by omega)
    rw [show j + 1 + (i - (j + 1)) = i by omega] at this
    omega
  · have := mh_rg_mono (j - (i + 1)) (i + 1) (by omega)
    rw [show i + 1 + (j - (i + 1)) = j by omega] at this
    omega
/-- several components change at once -/
theorem mh_CI.mul (hC : mh_CI h ad σ) {h' : mh_H} {σ' : mh_Sg} (S : List Nat) (h16 : ∀ i, i ∈ S → i < 16) (hf : ∀ b, (∀ i, i ∈ S → ∀ k, mh_rg i ≤ k → k < mh_rg (i + 1) → b ≠ ad k) → h' b = h b) (hn : ∀ i, i ∈ S → mh_cc ad σ' i h') (hs : ∀ j, j < 16 → j ∉ S → mh_cc ad σ j h → mh_cc ad σ' j h) : mh_CI h' ad σ' ∧ mh_frC ad h h' := by
  refine ⟨⟨hC.1, fun j hj => ?_⟩, fun b hb => hf b (fun i hi k _ k2 => hb k (by have := (mh_rg_le (h16 i hi)).2; omega))⟩
  by_cases e : j ∈ S
  · exact hn j e
  · refine mh_cc_keep hj (fun k k1 k2 => hf _ (fun i hi m m1 m2 => hC.1.ne ?_ ?_ ?_)) (hs j hj e (hC.2 j hj))
    · have := (mh_rg_le hj).2; omega
    · have := (mh_rg_le (h16 i hi)).2; omega
    · exact mh_rg_sep (h16 i hi) hj (fun q => e (q ▸ hi)) k1 k2 m1 m2
theorem mh_pr (hI : mh_Inj ad 1290) : mh_Inj (fun j => ad (1058 + j)) 200 := fun i j hi hj e => by
  have := hI _ _ (by omega) (by omega) e
  omega
theorem mh_toI {n : Nat} : (lN n).toInt32 = nI n := lN_i n
theorem mh_K_apart (hC : mh_CI h ad σ) (x1 x2 : Int32) : ∃ r h', f_X11_apart_e (ad 1289) x1 x2 h = some (r, h') ∧ mh_Qm σ x1 (mh_Bap x2) r ∧ mh_CI h' ad σ ∧ mh_frC ad h h' := by
  unfold f_X11_apart_e
  rw [mh_cal_eq hC.ob]
  rcases mh_place x1 with ⟨p, p1, p2⟩ | hx
  · subst p2
    rw [mh_bx_r (mh_x_mintAt hC p1)]
    rcases mh_x_checkCounted (h := h) x2 with ⟨s, s1, s2, s3⟩ | ⟨s1, s2⟩
    · subst s2
      obtain ⟨h4, c1, c2, c3, c4⟩ := mh_x_cwm hC p1 s1
      have hms : mh_ms (mh_mi σ p) := mh_x_ms hC p1
      have hcap : mh_CAP = 4000000000000000001 := rfl
      have hwl := mh_wy_le (mh_mi σ p) (mh_mi σ p).length s
      obtain ⟨N, eN⟩ : ∃ N, N = mh_wy (mh_mi σ p) (mh_mi σ p).length s := ⟨_, rfl⟩
      rw [mh_bx_r s3, mh_cal_eq hC.ob, mh_b2_eq c1]
      by_cases hw : N ≤ 4000000000000000000
      · rw [mh_cw_pos (by rw [← eN]; exact hw), ← eN]
        by_cases h0 : N = 0
        · rw [if_pos ((mh_cmp0 _ _).mpr (by rw [h0]; rfl))]
          exact ⟨_, h4, rfl, Or.inr ⟨p, p1, rfl, Or.inl ⟨s, s1, rfl, Or.inl ⟨eN.symm.trans h0, rfl⟩⟩⟩, c3, c4.C (by omega)⟩
        · have n0 : ¬ lg_cmp (lN N) (0 : Int64) = 0 := fun q => h0 ((mh_lN_inj (b := 0) (by omega) (by omega)).mp ((mh_cmp0 _ _).mp q))
          have n2 : ¬ lg_cmp (lN N) (-2 : Int64) = 0 := fun q => by
            have := (mh_cw2 (cs := mh_mi σ p) (s := s)).mp (by rw [mh_cw_pos (by rw [← eN]; exact hw), ← eN]; exact q)
            omega
          rw [if_neg n0, if_neg n2]
          by_cases h2 : N ≤ 200
          · obtain ⟨x, g, fn, fl, f1, g1, cp, np, q1, q2, q3, q4, q5, q6⟩ := c3.2 8 (by omega)
            have ne : ∀ {x y : Nat}, x < 1290 → y < 1290 → x ≠ y → ad x ≠ ad y := fun h1 h2 h3 => hC.1.ne h1 h2 h3
            obtain ⟨h8, g', f2, g2, n2, l1, l2, l3, l4, l5, l6, l7⟩ := mh_fx6_list q1 q2 q3 q6 c2 (mh_wr hC.1) (mh_pr hC.1) (ne (by omega) (by omega) (by omega)) (ne (by omega) (by omega) (by omega)) (ne (by omega) (by omega) (by omega)) (ne (by omega) (by omega) (by omega)) (fun j hj => ⟨ne (by omega) (by omega) (by omega), ne (by omega) (by omega) (by omega), ne (by omega) (by omega) (by omega)⟩) s1 h2
            have fr8 : ∀ b, (∀ k, 1033 ≤ k → k < 1258 → k ≠ 1051 → k ≠ 1052 → k ≠ 1053 → b ≠ ad k) → h8 b = h4 b := fun b hb => l7 b (fun q => by
              simp only [List.mem_cons, List.mem_append] at q
              rcases q with q | q | q | q | q | q | q
              · exact hb 1050 (by omega) (by omega) (by omega) (by omega) (by omega) q
              · exact hb 1055 (by omega) (by omega) (by omega) (by omega) (by omega) q
              · exact hb 1056 (by omega) (by omega) (by omega) (by omega) (by omega) q
              · exact hb 1057 (by omega) (by omega) (by omega) (by omega) (by omega) q
              · exact hb 1033 (by omega) (by omega) (by omega) (by omega) (by omega) q
              · obtain ⟨j, j1, j2⟩ := List.mem_map.mp q
                have := List.mem_range.mp j1
                exact hb (1037 + j) (by omega) (by omega) (by omega) (by omega) (by omega) j2.symm
              · obtain ⟨j, j1, j2⟩ := List.mem_map.mp q
                have := List.mem_range.mp j1
                exact hb (1058 + j) (by omega) (by omega) (by omega) (by omega) (by omega) j2.symm)
            have k51 : h8 (ad 1051) = h4 (ad 1051) := fr8 _ (fun k _ _ e1 _ _ => ne (by omega) (by omega) (fun q => e1 q.symm))
            have k52 : h8 (ad 1052) = h4 (ad 1052) := fr8 _ (fun k _ _ _ e1 _ => ne (by omega) (by omega) (fun q => e1 q.symm))
            have k53 : h8 (ad 1053) = h4 (ad 1053) := fr8 _ (fun k _ _ _ _ e1 => ne (by omega) (by omega) (fun q => e1 q.symm))
            have q2' : mh_Oi h8 (ad 1051) (fun j => ad (1058 + j)) 200 := k51.trans q2
            obtain ⟨z1, z2⟩ := c3.mul (h' := h8) (σ' := σ) [7, 8] (fun i hi => by simp only [List.mem_cons, List.not_mem_nil, or_false] at hi; omega) (fun b hb => fr8 b (fun k k1 k2 _ _ _ => by
              by_cases hk : k < 1050
              · exact hb 7 (by decide) k k1 hk
              · exact hb 8 (by decide) k (show 1050 ≤ k by omega) k2))
              (fun i hi => by
                simp only [List.mem_cons, List.not_mem_nil, or_false] at hi
                rcases hi with hi | hi
                · subst hi
                  exact ⟨_, l5⟩
                · subst hi
                  exact ⟨_, _, _, _, _, _, _, _, l2, q2', l3, k52.trans q4, k53.trans q5, l4⟩)
              (fun _ _ _ q => q)
            obtain ⟨h10, fn2, fl2, w1, w2, w3, w4⟩ := mh_fx6_widestStep (V := fun r => mh_ly (mh_mi σ p) (mh_mi σ p).length s r) l2 q2' l3 (k52.trans q4) (k53.trans q5) (by omega) h2 (fun r i hr hi => ⟨l6 r i hr hi, Nat.le_trans (mh_ly_b _ _ _ _ i) s1⟩)
            have kk : ∀ k, k < 1290 → k ≠ 1052 → k ≠ 1053 → h10 (ad k) = h8 (ad k) := fun k hk e1 e2 => w4 _ (by simp [ne hk (show 1052 < 1290 by omega) e1, ne hk (show 1053 < 1290 by omega) e2])
            obtain ⟨y1, y2⟩ := z1.same 8 (by omega) (h' := h10) (w4.rg (fun x hx => by
              simp only [List.mem_cons, List.not_mem_nil, or_false] at hx
              rcases hx with q | q
              · exact ⟨1052, by decide, by decide, q⟩
              · exact ⟨1053, by decide, by decide, q⟩)) ⟨_, _, _, _, _, _, _, _, (kk _ (by omega) (by omega) (by omega)).trans l2, (kk _ (by omega) (by omega) (by omega)).trans q2', fun j hj => by
                have a := l3 j hj
                exact (kk _ (by omega) (by omega) (by omega)).trans a, w2, w3, l4.keep (kk _ (by omega) (by omega) (by omega)) (kk _ (by omega) (by omega) (by omega)) (kk _ (by omega) (by omega) (by omega)) (kk _ (by omega) (by omega) (by omega))⟩
            rw [if_pos (show lg_cmp (lN N) (200 : Int64) ≤ 0 from (mh_cleN (b := 200) (by omega) (by omega)).mpr h2), mh_gR_eq (k := 8) c3.ob rfl, Option.bind_some, mh_gR_eq (k := 7) c3.ob rfl, Option.bind_some, mh_toI, mh_cal_eq q1, l1, Option.bind_some, mh_gR_eq (k := 8) z1.ob rfl, Option.bind_some, mh_cal_eq l2, mh_b2_eq w1]
            refine ⟨_, h10, rfl, Or.inr ⟨p, p1, rfl, Or.inl ⟨s, s1, rfl, Or.inr (Or.inl ?_)⟩⟩, y1, (c4.C (by omega)).trans (z2.trans y2)⟩
            show 1 ≤ mh_wy (mh_mi σ p) (mh_mi σ p).length s ∧ mh_wy (mh_mi σ p) (mh_mi σ p).length s ≤ 200 ∧ _ = Sum.inr (nI (mh_pm (mh_wy (mh_mi σ p) (mh_mi σ p).length s) (fun a b => mh_df (mh_ly (mh_mi σ p) (mh_mi σ p).length s a) (mh_ly (mh_mi σ p) (mh_mi σ p).length s b)) (mh_wy (mh_mi σ p) (mh_mi σ p).length s - 1)).2.2)
            rw [← eN]
            exact ⟨by omega, h2, rfl⟩
          · rw [if_neg (fun q : lg_cmp (lN N) (200 : Int64) ≤ 0 => h2 ((mh_cleN (b := 200) (by omega) (by omega)).mp q))]
            exact ⟨_, h4, rfl, Or.inr ⟨p, p1, rfl, Or.inl ⟨s, s1, rfl, Or.inr (Or.inr ⟨show 200 < mh_wy (mh_mi σ p) (mh_mi σ p).length s by omega, rfl⟩)⟩⟩, c3, c4.C (by omega)⟩
      · have hw' : ¬ mh_wy (mh_mi σ p) (mh_mi σ p).length s ≤ 4000000000000000000 := by rw [← eN]; exact hw
        rw [mh_cw_neg hw', if_neg (fun q => absurd ((mh_cmp0 _ _).mp q) (by decide)), if_pos ((mh_cmp0 _ _).mpr rfl)]
        exact ⟨_, h4, rfl, Or.inr ⟨p, p1, rfl, Or.inl ⟨s, s1, rfl, Or.inr (Or.inr ⟨show 200 < mh_wy (mh_mi σ p) (mh_mi σ p).length s by omega, rfl⟩)⟩⟩, c3, c4.C (by omega)⟩
    · rw [mh_bx_l s2]
      exact ⟨_, h, rfl, Or.inr ⟨p, p1, rfl, Or.inr ⟨s1, rfl⟩⟩, hC, mh_frC.rfl⟩
  · rw [mh_bx_l (mh_x_mintNo hx)]
    exact ⟨_, h, rfl, Or.inl ⟨hx, rfl⟩, hC, mh_frC.rfl⟩
end MhMul
