def mh_setc (σ : mh_Sg) (lk : Nat) : mh_Sg := (σ.1, σ.2.1, lk, σ.2.2.2)
def mh_Sbest (σ : mh_Sg) (x1 x2 x3 : Int32) (r : Nat ⊕ Int32) (σ' : mh_Sg) : Prop := ((∀ p, p < 8 → x3 ≠ nI p) ∧ r = .inl 1 ∧ σ' = σ) ∨ ∃ p, p < 8 ∧ x3 = nI p ∧ ((∃ K H, 1 ≤ K ∧ K ≤ 6 ∧ 1 ≤ H ∧ H ≤ 12 ∧ x1 = nI K ∧ x2 = nI H ∧ (((mh_se H (K - 1) [1] (0, 0, [])).1 ≤ 2000 ∧ r = .inr (nI (mh_se H (K - 1) [1] (0, 0, [])).2.1) ∧ σ' = mh_setm (mh_bg (mh_setc σ (mh_se H (K - 1) [1] (0, 0, [])).1)) (mh_nx σ * 8 + p) (mh_se H (K - 1) [1] (0, 0, [])).2.2) ∨ (2000 < (mh_se H (K - 1) [1] (0, 0, [])).1 ∧ r = .inr (-2) ∧ σ' = mh_setc σ 2000))) ∨ ((∀ K H, 1 ≤ K → K ≤ 6 → 1 ≤ H → H ≤ 12 → ¬ (x1 = nI K ∧ x2 = nI H)) ∧ r = .inl 2 ∧ σ' = σ))
section MhBestC
variable {h : mh_H} {ad : Nat → Nat} {σ : mh_Sg}
theorem mh_K_cases (hC : mh_CI h ad σ) : f_X11_cases_e (ad 1289) h = some (nI σ.2.2.1, h) := by
  obtain ⟨b, fnd, N, L, rch, hS, _⟩ := hC.2 9 (by omega)
  unfold f_X11_cases_e
  rw [mh_gR_eq (k := 9) hC.ob rfl, Option.bind_some, mh_cal_eq hS.1]
  unfold f_X9_looked_e
  rw [mh_gI_eq (k := 5) hS.1 rfl]
  rfl
theorem mh_begin_at (hC : mh_CI h ad σ) {h1 : mh_H} (b1 : f_X3_begin_e (ad 1008) h = some h1) {k : Nat} (k1 : 1011 ≤ k) (k2 : k < 1290) : h1 (ad k) = h (ad k) := by
  have hn := hC.now
  obtain ⟨hA, hS⟩ := hC.A
  have hi := hC.inj (show 1011 ≤ 1290 by omega)
  obtain ⟨h', e1, e2, e3, e4⟩ := mh_fx3_begin hi hA (m := fun i => σ.2.1.1 (σ.1.1 * 8 + i)) (c := fun i => σ.2.1.2.1 (σ.1.1 * 8 + i)) (n := fun i => σ.2.1.2.2 (σ.1.1 * 8 + i)) (fun i hi => (hS _ (by omega)).1) (fun i hi => ⟨_, _, _, (hS ((σ.1.1 + 1) % 21 * 8 + i) (by omega)).1⟩)
  rw [b1] at e1
  cases e1
  exact e4 _ (hC.1.ne (by omega) (by omega) (by omega)) (fun i q q1 q2 => hC.1.ne (by omega) (by omega) (by omega))
theorem mh_x_setc (hC : mh_CI h ad σ) {h' : mh_H} {lk : Nat} (hlk : lk ≤ 2000) (hf : mh_fr [ad 1258, ad 1259, ad 1260, ad 1261, ad 1262, ad 1263, ad 1264, ad 1011, ad 1012, ad 1013, ad 1014] h h') (hF : ∃ c, mh_Fe h' (ad 1011) (ad 1012) (ad 1013) (ad 1014) (ad 1015) (ad 1016) c) (hS : ∃ b fnd N L rch, mh_Ss h' (ad 1258) (ad 1259) (ad 1260) (ad 1261) (ad 1262) (ad 1263) (ad 1264) b fnd N L rch lk) : mh_CI h' ad (mh_setc σ lk) ∧ mh_frC ad h h' := by
  refine hC.mul [1, 9] (fun i hi => by simp only [List.mem_cons, List.not_mem_nil, or_false] at hi; omega) (fun b hb => hf b (fun q => ?_)) (fun i hi => ?_) (fun j hj hn hc => ?_)
  · simp only [List.mem_cons, List.not_mem_nil, or_false] at q
    rcases q with q | q | q | q | q | q | q | q | q | q | q
    · exact hb 9 (by decide) 1258 (by decide) (by decide) q
    · exact hb 9 (by decide) 1259 (by decide) (by decide) q
    · exact hb 9 (by decide) 1260 (by decide) (by decide) q
    · exact hb 9 (by decide) 1261 (by decide) (by decide) q
    · exact hb 9 (by decide) 1262 (by decide) (by decide) q
    · exact hb 9 (by decide) 1263 (by decide) (by decide) q
    · exact hb 9 (by decide) 1264 (by decide) (by decide) q
    · exact hb 1 (by decide) 1011 (by decide) (by decide) q
    · exact hb 1 (by decide) 1012 (by decide) (by decide) q
    · exact hb 1 (by decide) 1013 (by decide) (by decide) q
    · exact hb 1 (by decide) 1014 (by decide) (by decide) q
  · simp only [List.mem_cons, List.not_mem_nil, or_false] at hi
    rcases hi with hi | hi
    · subst hi; exact hF
    · subst hi
      obtain ⟨b, fnd, N, L, rch, hS⟩ := hS
      exact ⟨b, fnd, N, L, rch, hS, hlk⟩
  · simp only [List.mem_cons, List.not_mem_nil, or_false, not_or] at hn
    obtain rfl | rfl | rfl | rfl | rfl | rfl | rfl | rfl | rfl | rfl | rfl | rfl | rfl | rfl : j = 0 ∨ j = 2 ∨ j = 3 ∨ j = 4 ∨ j = 5 ∨ j = 6 ∨ j = 7 ∨ j = 8 ∨ j = 10 ∨ j = 11 ∨ j = 12 ∨ j = 13 ∨ j = 14 ∨ j = 15 := by omega
    all_goals exact hc
theorem mh_K_best (hC : mh_CI h ad σ) (x1 x2 x3 : Int32) : ∃ r h' σ', f_X11_best_e (ad 1289) x1 x2 x3 h = some (r, h') ∧ mh_Sbest σ x1 x2 x3 r σ' ∧ mh_CI h' ad σ' ∧ mh_frC ad h h' := by
  unfold f_X11_best_e
  rw [mh_cal_eq hC.ob]
  rcases mh_place x3 with ⟨p, p1, p2⟩ | hx
  · subst p2
    rw [mh_bx_r (mh_x_mintAt hC p1)]
    have bad : (∀ K H, 1 ≤ K → K ≤ 6 → 1 ≤ H → H ≤ 12 → ¬ (x1 = nI K ∧ x2 = nI H)) → ∃ r h' σ', f_X11_best_b28 h = some (r, h') ∧ mh_Sbest σ x1 x2 (nI p) r σ' ∧ mh_CI h' ad σ' ∧ mh_frC ad h h' := fun hb => ⟨_, h, σ, rfl, Or.inr ⟨p, p1, rfl, Or.inr ⟨hb, rfl, rfl⟩⟩, hC, mh_frC.rfl⟩
    rcases mh_range (x := x1) (lo := 1) (hi := 6) (a := 1) (b := 6) rfl rfl (by omega) (by omega) with ⟨r1, r2⟩ | ⟨r1, r2, r3⟩ | ⟨r1, r2, K, K1, K2, K3⟩
    · rw [if_pos r1]
      exact bad (fun K H h1 h2 _ _ q => r2 K h1 h2 q.1)
    · rw [if_neg r1, if_pos (Int32.not_le.mp r2)]
      exact bad (fun K H h1 h2 _ _ q => r3 K h1 h2 q.1)
    · rw [if_neg r1, if_neg (Int32.not_lt.mpr r2)]
      rcases mh_range (x := x2) (lo := 1) (hi := 12) (a := 1) (b := 12) rfl rfl (by omega) (by omega) with ⟨t1, t2⟩ | ⟨t1, t2, t3⟩ | ⟨t1, t2, H, H1, H2, H3⟩
      · rw [if_pos t1]
        exact bad (fun K H _ _ h1 h2 q => t2 H h1 h2 q.2)
      · rw [if_neg t1, if_neg t2]
        exact bad (fun K H _ _ h1 h2 q => t3 H h1 h2 q.2)
      · subst K3 H3
        have ne : ∀ {x y : Nat}, x < 1290 → y < 1290 → x ≠ y → ad x ≠ ad y := fun h1 h2 h3 => hC.1.ne h1 h2 h3
        obtain ⟨b0, fnd0, N0, L0, rch0, hS, hlk⟩ := hC.2 9 (by omega)
        obtain ⟨cF, hF⟩ := hC.fewest
        obtain ⟨⟨v, h5⟩, e1, e2, e3, e4⟩ := mh_fx9_run (show mh_Sd (ad 1259) (ad 1260) (ad 1261) (ad 1262) (ad 1263) (ad 1264) (ad 1012) (ad 1013) from ⟨ne (by omega) (by omega) (by omega), ne (by omega) (by omega) (by omega), ne (by omega) (by omega) (by omega), ne (by omega) (by omega) (by omega), ne (by omega) (by omega) (by omega), ne (by omega) (by omega) (by omega), ne (by omega) (by omega) (by omega)⟩) hS hF K1 K2 (show H ≤ 50 by omega)
        rw [if_neg t1, if_pos t2, mh_gR_eq (k := 9) hC.ob rfl, Option.bind_some, mh_gR_eq (k := 1) hC.ob rfl, Option.bind_some, mh_cal_eq hS.1, mh_b2_eq e1]
        obtain ⟨ST, eST⟩ : ∃ ST, ST = mh_se H (K - 1) [1] (0, 0, []) := ⟨_, rfl⟩
        rw [← eST] at e2
        rcases e2 with ⟨d1, d2, ⟨b, N, L, d3, d4⟩, d5, d6⟩ | ⟨d1, d2, b, fnd, N, L, rch, d3, d4, d5, d6⟩
        · have d1 : v = 1 := d1
          have d3 : mh_Ss h5 (ad 1258) (ad 1259) (ad 1260) (ad 1261) (ad 1262) (ad 1263) (ad 1264) b ST.2.2 N L ST.2.1 ST.1 := d3
          obtain ⟨z1, z2⟩ := mh_x_setc hC d2 e4 e3 ⟨_, _, _, _, _, d3⟩
          obtain ⟨h8, b1, b2, b3⟩ := mh_x_begin z1
          have hn := z1.now
          have hn1 := b2.now
          have kb : ∀ k, 1011 ≤ k → k < 1290 → h8 (ad k) = h5 (ad k) := fun k k1 k2 => mh_begin_at z1 b1 k1 k2
          obtain ⟨s1, _, ⟨ff, s3⟩, _⟩ := d3
          have s1' := (kb 1258 (by omega) (by omega)).trans s1
          have s3' := s3.keep (kb 1261 (by omega) (by omega)) (kb 1262 (by omega) (by omega))
          obtain ⟨f2, hm2⟩ := mh_x_mint b2 p1
          have hj : (mh_bg (mh_setc σ ST.1)).1.1 * 8 + p < 168 := by omega
          obtain ⟨f', y1, y2⟩ := mh_fx1_copy hm2 s3' hm2.ne (ne (by omega) (by omega) (by omega)) (ne (by omega) (by omega) (by omega)) (ne (by omega) (by omega) (by omega)) (ne (by omega) (by omega) (by omega))
          obtain ⟨h15, e15⟩ : ∃ h15, h15 = mh_up (mh_up h8 (ad (6 * ((mh_bg (mh_setc σ ST.1)).1.1 * 8 + p))) (.inr (1, [.ref (ad (6 * ((mh_bg (mh_setc σ ST.1)).1.1 * 8 + p) + 1)), .int (nI ST.2.2.length)]))) (ad (6 * ((mh_bg (mh_setc σ ST.1)).1.1 * 8 + p) + 1)) (.inl (0, 12, .inl f')) := ⟨_, rfl⟩
          rw [← e15] at y1 y2
          obtain ⟨w1, w2⟩ := b2.mint (h' := h15) hj y2 d5 (fun b q1 q2 => by rw [e15, mh_up_ne q2, mh_up_ne q1])
          have s15 : h15 (ad 1258) = some (.inr (9, [.ref (ad 1259), .ref (ad 1261), .ref (ad 1263), .ref (ad 1264), .int (nI ST.2.1), .int (nI ST.1)])) := by
            rw [e15, mh_up_ne (ne (by omega) (by omega) (by omega)), mh_up_ne (ne (by omega) (by omega) (by omega))]
            exact s1'
          have fd : f_X9_found_e (ad 1258) h8 = some (ad 1261, h8) := by
            unfold f_X9_found_e
            rw [mh_gR_eq (k := 1) s1' rfl]
            rfl
          have fre : f_X9_foundReach_e (ad 1258) h15 = some (nI ST.2.1, h15) := by
            unfold f_X9_foundReach_e
            rw [mh_gI_eq (k := 4) s15 rfl]
            rfl
          rw [d1, if_neg (by decide), mh_gR_eq (k := 0) z1.ob rfl, Option.bind_some, mh_cal_eq z1.A.1.1, b1, Option.bind_some, mh_gR_eq (k := 0) b2.ob rfl, Option.bind_some, mh_cal_eq b2.A.1.1, mh_b2_eq (mh_fx3_mint b2.A.1 p1), mh_gR_eq (k := 9) b2.ob rfl, Option.bind_some, mh_cal_eq s1', mh_b2_eq fd, mh_cal_eq hm2.1, y1, Option.bind_some, mh_gR_eq (k := 9) w1.ob rfl, Option.bind_some, mh_cal_eq s15, mh_b2_eq fre]
          refine ⟨_, h15, _, rfl, Or.inr ⟨p, p1, rfl, Or.inl ⟨K, H, K1, K2, H1, H2, rfl, rfl, Or.inl ?_⟩⟩, w1, z2.trans (b3.trans w2)⟩
          rw [← eST]
          exact ⟨d2, rfl, rfl⟩
        · have d1 : v = 0 := d1
          obtain ⟨z1, z2⟩ := mh_x_setc hC (Nat.le_refl 2000) e4 e3 ⟨_, _, _, _, _, d3⟩
          rw [d1, if_pos rfl]
          refine ⟨_, h5, _, rfl, Or.inr ⟨p, p1, rfl, Or.inl ⟨K, H, K1, K2, H1, H2, rfl, rfl, Or.inr ?_⟩⟩, z1, z2⟩
          rw [← eST]
          exact ⟨d2, rfl, rfl⟩
  · rw [mh_bx_l (mh_x_mintNo hx)]
    exact ⟨_, h, σ, rfl, Or.inl ⟨hx, rfl, rfl⟩, hC, mh_frC.rfl⟩
end MhBestC
