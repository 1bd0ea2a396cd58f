/-! ways, the hand -/
def mh_cw (cs : List Nat) (s : Nat) : Int64 := if mh_wy cs cs.length s ≤ 4000000000000000000 then lN (mh_wy cs cs.length s) else -2
def mh_seth (σ : mh_Sg) (hd : Option (List Nat × List Nat)) : mh_Sg := (σ.1, σ.2.1, σ.2.2.1, hd)
def mh_Bways (x2 : Int32) (cs : List Nat) (r : Nat ⊕ Int64) : Prop := (∃ s, s ≤ 3000 ∧ x2 = nI s ∧ r = .inr (mh_cw cs s)) ∨ ((∀ s, s ≤ 3000 → x2 ≠ nI s) ∧ r = .inl 2)
def mh_Pof (cs : List Nat) (s : Nat) (y : Int64) (k : Nat) : Prop := y = lN k ∧ k < mh_wy cs cs.length s ∧ mh_wy cs cs.length s ≤ 4000000000000000000
def mh_Sof (σ : mh_Sg) (x1 x2 : Int32) (y : Int64) (r : Nat ⊕ Int32) (σ' : mh_Sg) : Prop := ((∀ p, p < 8 → x1 ≠ nI p) ∧ r = .inl 1 ∧ σ' = σ) ∨ ∃ p, p < 8 ∧ x1 = nI p ∧ (((∀ s, s ≤ 3000 → x2 ≠ nI s) ∧ r = .inl 2 ∧ σ' = σ) ∨ ∃ s, s ≤ 3000 ∧ x2 = nI s ∧ ((∃ k, mh_Pof (mh_mi σ p) s y k ∧ r = .inr 1 ∧ σ' = mh_seth σ (some (mh_mi σ p, mh_ly (mh_mi σ p) (mh_mi σ p).length s k))) ∨ ((∀ k, ¬ mh_Pof (mh_mi σ p) s y k) ∧ r = .inr 0 ∧ σ' = σ)))
theorem mh_cw_neg {cs : List Nat} {s : Nat} (h : ¬ mh_wy cs cs.length s ≤ 4000000000000000000) : mh_cw cs s = -2 := if_neg h
theorem mh_cw_pos {cs : List Nat} {s : Nat} (h : mh_wy cs cs.length s ≤ 4000000000000000000) : mh_cw cs s = lN (mh_wy cs cs.length s) := if_pos h
theorem mh_x_checkCounted {h : mh_H} (x : Int32) : (∃ s, s ≤ 3000 ∧ x = nI s ∧ f_X11_checkCounted_e x h = some (.inr (), h)) ∨ ((∀ s, s ≤ 3000 → x ≠ nI s) ∧ f_X11_checkCounted_e x h = some (.inl 2, h)) := by
  unfold f_X11_checkCounted_e
  rcases mh_range (x := x) (lo := 0) (hi := 3000) (a := 0) (b := 3000) rfl rfl (by omega) (by omega) with ⟨r1, r2⟩ | ⟨r1, r2, r3⟩ | ⟨r1, r2, s, r3, r4, r5⟩
  · rw [if_pos r1]
    exact Or.inr ⟨fun s hs => r2 s (Nat.zero_le _) hs, rfl⟩
  · rw [if_neg r1, if_neg r2]
    exact Or.inr ⟨fun s hs => r3 s (Nat.zero_le _) hs, rfl⟩
  · rw [if_neg r1, if_pos r2]
    exact Or.inl ⟨s, r4, r5, rfl⟩
section MhWaysC
variable {h : mh_H} {ad : Nat → Nat} {σ : mh_Sg}
theorem mh_wr (hI : mh_Inj ad 1290) : mh_Inj (fun j => ad (1037 + j)) 13 := fun i j hi hj e => by
  have := hI _ _ (by omega) (by omega) e
  omega
theorem mh_rw_rg {h' : mh_H} {lo hi : Nat} (h1 : lo ≤ 1033) (h2 : 1050 ≤ hi) (hf : mh_fr (ad 1033 :: mh_rw (fun j => ad (1037 + j))) h h') : mh_fR ad lo hi h h' := hf.rg (fun x hx => by
  rcases List.mem_cons.mp hx with q | q
  · exact ⟨1033, by omega, by omega, q⟩
  · obtain ⟨j, j1, j2⟩ := List.mem_map.mp q
    have := List.mem_range.mp j1
    exact ⟨1037 + j, by omega, by omega, j2.symm⟩)
theorem mh_fR.trans {lo hi : Nat} {h' h'' : mh_H} (a : mh_fR ad lo hi h h') (b : mh_fR ad lo hi h' h'') : mh_fR ad lo hi h h'' := fun x hx => (b x hx).trans (a x hx)
theorem mh_fR.at (hI : mh_Inj ad 1290) {lo hi : Nat} {h' : mh_H} (a : mh_fR ad lo hi h h') {k : Nat} (hk : k < 1290) (hh : hi ≤ 1290) (hn : k < lo ∨ hi ≤ k) : h' (ad k) = h (ad k) := a _ (fun m m1 m2 => hI.ne hk (by omega) (by omega))
/-- the number of ways -/
theorem mh_x_cw (hC : mh_CI h ad σ) {a u : Nat} {f : Nat → Int32} {cs : List Nat} (hc : mh_Co h a u f cs) (hm : mh_ms cs) (na : a ≠ ad 1034) (nu : u ≠ ad 1035) {s : Nat} (hs : s ≤ 3000) : ∃ h', f_X11_countWays_e (ad 1289) a (nI s) h = some (mh_cw cs s, h') ∧ mh_Wy h' (ad 1033) (ad 1034) (ad 1035) (ad 1036) (fun j => ad (1037 + j)) cs ∧ mh_CI h' ad σ ∧ mh_fR ad 1033 1050 h h' := by
  obtain ⟨c, hW⟩ := hC.2 7 (by omega)
  obtain ⟨h1, e1, e2, e3⟩ := mh_fx10_take hW hc hm na nu
  have f1 : mh_fR ad 1033 1050 h h1 := e3.rg (fun x hx => by
    simp only [List.mem_cons, List.not_mem_nil, or_false] at hx
    rcases hx with q | q | q
    · exact ⟨1033, by omega, by omega, q⟩
    · exact ⟨1034, by omega, by omega, q⟩
    · exact ⟨1035, by omega, by omega, q⟩)
  obtain ⟨z1, z2⟩ := hC.same 7 (by omega) f1 ⟨_, e2⟩
  obtain ⟨h2, g1, g2, g3⟩ := mh_fx10_count (mh_wr hC.1) e2 hs
  have f2 : mh_fR ad 1033 1050 h1 h2 := mh_rw_rg (by omega) (by omega) g3
  obtain ⟨y1, y2⟩ := z1.same 7 (by omega) f2 ⟨_, g2⟩
  refine ⟨h2, ?_, g2, y1, f1.trans f2⟩
  have o0 : h (ad 1033) = some (.inr (10, [.ref (ad 1034), .ref (ad 1036), .int (nI hW.choose_spec.choose_spec.choose - 1)])) := hW.choose_spec.choose_spec.choose_spec.1
  have o1 : h1 (ad 1033) = some (.inr (10, [.ref (ad 1034), .ref (ad 1036), .int (nI e2.choose_spec.choose_spec.choose - 1)])) := e2.choose_spec.choose_spec.choose_spec.1
  have hb := mh_wy_le cs cs.length s
  have hcap : mh_CAP = 4000000000000000001 := rfl
  unfold f_X11_countWays_e
  rw [mh_gR_eq (k := 7) hC.ob rfl, Option.bind_some, mh_cal_eq o0, e1, Option.bind_some, mh_gR_eq (k := 7) z1.ob rfl, Option.bind_some, mh_cal_eq o1, mh_b2_eq g1]
  by_cases hle : mh_wy cs cs.length s ≤ 4000000000000000000
  · rw [if_pos (show lg_cmp (lN (mh_wy cs cs.length s)) (4000000000000000000 : Int64) ≤ 0 from (mh_cleN (b := 4000000000000000000) (by omega) (by omega)).mpr hle), mh_cw_pos hle]
    rfl
  · rw [if_neg (fun q : lg_cmp (lN (mh_wy cs cs.length s)) (4000000000000000000 : Int64) ≤ 0 => hle ((mh_cleN (b := 4000000000000000000) (by omega) (by omega)).mp q)), mh_cw_neg hle]
    rfl
theorem mh_fR.K (hC : mh_CI h ad σ) {h' : mh_H} {lo hi : Nat} (a : mh_fR ad lo hi h h') (hh : hi ≤ 1290) : mh_frC ad h h' := a.C hh
theorem mh_x_cwm (hC : mh_CI h ad σ) {p : Nat} (hp : p < 8) {s : Nat} (hs : s ≤ 3000) : ∃ h', f_X11_countWays_e (ad 1289) (ad (6 * (σ.1.1 * 8 + p))) (nI s) h = some (mh_cw (mh_mi σ p) s, h') ∧ mh_Wy h' (ad 1033) (ad 1034) (ad 1035) (ad 1036) (fun j => ad (1037 + j)) (mh_mi σ p) ∧ mh_CI h' ad σ ∧ mh_fR ad 1033 1050 h h' := by
  obtain ⟨f, hc⟩ := mh_x_mint hC hp
  have hn := hC.now
  exact mh_x_cw hC hc (mh_x_ms hC hp) (hC.1.ne (by omega) (by omega) (by omega)) (hC.1.ne (by omega) (by omega) (by omega)) hs
theorem mh_K_ways (hC : mh_CI h ad σ) (x1 x2 : Int32) : ∃ r h', f_X11_ways_e (ad 1289) x1 x2 h = some (r, h') ∧ mh_Qm σ x1 (mh_Bways x2) r ∧ mh_CI h' ad σ ∧ mh_frC ad h h' := by
  unfold f_X11_ways_e
  rw [mh_cal_eq hC.ob]
  rcases mh_place x1 with ⟨p, p1, p2⟩ | hx
  · subst p2
    rw [mh_bx_r (mh_x_mintAt hC p1)]
    rcases mh_x_checkCounted (h := h) x2 with ⟨s, s1, s2, s3⟩ | ⟨s1, s2⟩
    · subst s2
      obtain ⟨h', c1, c2, c3, c4⟩ := mh_x_cwm hC p1 s1
      rw [mh_bx_r s3, mh_cal_eq hC.ob, mh_b2_eq c1]
      exact ⟨_, h', rfl, Or.inr ⟨p, p1, rfl, Or.inl ⟨s, s1, rfl, rfl⟩⟩, c3, c4.C (by omega)⟩
    · rw [mh_bx_l s2]
      exact ⟨_, h, rfl, Or.inr ⟨p, p1, rfl, Or.inr ⟨s1, rfl⟩⟩, hC, mh_frC.rfl⟩
  · rw [mh_bx_l (mh_x_mintNo hx)]
    exact ⟨_, h, rfl, Or.inl ⟨hx, rfl⟩, hC, mh_frC.rfl⟩
/-- ways and the hand change -/
theorem mh_CI.hand (hC : mh_CI h ad σ) {h' : mh_H} {hd : Option (List Nat × List Nat)} (hf : ∀ b, (∀ k, (1033 ≤ k ∧ k < 1050) ∨ (1285 ≤ k ∧ k < 1290) → b ≠ ad k) → h' b = h b) (h7 : mh_cc ad σ 7 h') (h14 : mh_cc ad (mh_seth σ hd) 14 h') (h15 : mh_cc ad (mh_seth σ hd) 15 h') : mh_CI h' ad (mh_seth σ hd) ∧ mh_frC ad h h' := by
  refine ⟨⟨hC.1, fun j hj => ?_⟩, fun b hb => hf b (fun k hk => hb k (by omega))⟩
  by_cases e14 : j = 14
  · rw [e14]; exact h14
  · by_cases e15 : j = 15
    · rw [e15]; exact h15
    · by_cases e7 : j = 7
      · rw [e7]; exact h7
      · have hb : mh_cc ad (mh_seth σ hd) j h := by
          have := hC.2 j hj
          obtain rfl | rfl | rfl | rfl | rfl | rfl | rfl | rfl | rfl | rfl | rfl | rfl | rfl : j = 0 ∨ j = 1 ∨ j = 2 ∨ j = 3 ∨ j = 4 ∨ j = 5 ∨ j = 6 ∨ j = 8 ∨ j = 9 ∨ j = 10 ∨ j = 11 ∨ j = 12 ∨ j = 13 := by omega
          all_goals exact this
        refine mh_cc_keep hj (fun k k1 k2 => hf _ (fun m hm => hC.1.ne ?_ ?_ ?_)) hb
        · have := (mh_rg_le hj).2; omega
        · omega
        · obtain rfl | rfl | rfl | rfl | rfl | rfl | rfl | rfl | rfl | rfl | rfl | rfl | rfl : j = 0 ∨ j = 1 ∨ j = 2 ∨ j = 3 ∨ j = 4 ∨ j = 5 ∨ j = 6 ∨ j = 8 ∨ j = 9 ∨ j = 10 ∨ j = 11 ∨ j = 12 ∨ j = 13 := by omega
          all_goals (simp only [mh_rg] at k1 k2; omega)
theorem mh_K_of (hC : mh_CI h ad σ) (x1 x2 : Int32) (y : Int64) : ∃ r h' σ', f_X11_of_e (ad 1289) x1 x2 y h = some (r, h') ∧ mh_Sof σ x1 x2 y r σ' ∧ mh_CI h' ad σ' ∧ mh_frC ad h h' := by
  unfold f_X11_of_e
  rw [mh_cal_eq hC.ob]
  rcases mh_place x1 with ⟨p, p1, p2⟩ | hx
  · subst p2
    rw [mh_bx_r (mh_x_mintAt hC p1)]
    rcases mh_x_checkCounted (h := h) x2 with ⟨s, s1, s2, s3⟩ | ⟨s1, s2⟩
    · subst s2
      rw [mh_bx_r s3]
      by_cases hneg : y < 0
      · have c : lg_cmp y (0 : Int64) < 0 := (mh_clt _ _).mpr (fun q => q.elim (fun q => Int64.lt_irrefl (Int64.lt_trans hneg q)) (fun q => by rw [q] at hneg; exact Int64.lt_irrefl hneg))
        rw [if_pos c]
        refine ⟨.inr 0, h, σ, rfl, Or.inr ⟨p, p1, rfl, Or.inr ⟨s, s1, rfl, Or.inr ⟨fun k hk => ?_, rfl, rfl⟩⟩⟩, hC, mh_frC.rfl⟩
        have q1 := hk.2.1
        have q2 := hk.2.2
        rw [hk.1] at hneg
        have := (pk_lLT (b := 0) (by omega) (by omega)).mp hneg
        omega
      · obtain ⟨k, k1, k2⟩ := pk_lOf hneg
        subst k2
        have c : ¬ lg_cmp (lN k) (0 : Int64) < 0 := fun q => absurd ((mh_cltN (b := 0) k1 (by omega)).mp q) (by omega)
        obtain ⟨h4, c1, c2, c3, c4⟩ := mh_x_cwm hC p1 s1
        have hcap : mh_CAP = 4000000000000000001 := rfl
        have hwl := mh_wy_le (mh_mi σ p) (mh_mi σ p).length s
        rw [if_neg c, mh_cal_eq hC.ob, mh_b2_eq c1]
        by_cases hP : mh_Pof (mh_mi σ p) s (lN k) k
        · obtain ⟨_, w1, w2⟩ := hP
          have hn := hC.now
          have ne : ∀ {x y : Nat}, x < 1290 → y < 1290 → x ≠ y → ad x ≠ ad y := fun h1 h2 h3 => hC.1.ne h1 h2 h3
          obtain ⟨f0, g0, cc, nn, hp0, _⟩ := c3.2 14 (by omega)
          obtain ⟨fm, hm⟩ := mh_x_mint c3 p1
          obtain ⟨h7, f7, g7, r1, r2, r3⟩ := mh_fx7_refit hp0 hm (ne (by omega) (by omega) (by omega)) (ne (by omega) (by omega) (by omega)) (ne (by omega) (by omega) (by omega)) (ne (by omega) (by omega) (by omega)) (ne (by omega) (by omega) (by omega)) (ne (by omega) (by omega) (by omega)) (ne (by omega) (by omega) (by omega)) (ne (by omega) (by omega) (by omega)) (ne (by omega) (by omega) (by omega)) (ne (by omega) (by omega) (by omega))
          have k7 : ∀ x, x < 1290 → x ≠ 1286 → x ≠ 1287 → x ≠ 1288 → h7 (ad x) = h4 (ad x) := fun x hx e1 e2 e3 => r3 _ (ne hx (by omega) e1) (ne hx (by omega) e2) (ne hx (by omega) e3)
          have W7 : mh_Wy h7 (ad 1033) (ad 1034) (ad 1035) (ad 1036) (fun j => ad (1037 + j)) (mh_mi σ p) := c2.keep (k7 _ (by omega) (by omega) (by omega) (by omega)) (k7 _ (by omega) (by omega) (by omega) (by omega)) (k7 _ (by omega) (by omega) (by omega) (by omega)) (k7 _ (by omega) (by omega) (by omega) (by omega)) (fun j hj => k7 _ (by omega) (by omega) (by omega) (by omega))
          obtain ⟨h10, f10, g10, l1, l2, l3, l4⟩ := mh_fx10_lay (mh_wr hC.1) W7 r2 (ne (by omega) (by omega) (by omega)) (ne (by omega) (by omega) (by omega)) s1 (r := k) (by omega)
          have ob7 := (k7 1289 (by omega) (by omega) (by omega) (by omega)).trans c3.ob
          have fr10 : ∀ b, (∀ x, (1033 ≤ x ∧ x < 1050) ∨ x = 1288 → b ≠ ad x) → h10 b = h7 b := fun b hb => l4 b (fun q => by
            rcases List.mem_cons.mp q with q | q
            · exact hb 1288 (by omega) q
            · rcases List.mem_cons.mp q with q | q
              · exact hb 1033 (by omega) q
              · obtain ⟨j, j1, j2⟩ := List.mem_map.mp q
                have := List.mem_range.mp j1
                exact hb (1037 + j) (by omega) j2.symm)
          have ob10 := (fr10 (ad 1289) (fun x hx => ne (by omega) (by omega) (by omega))).trans ob7
          obtain ⟨h11, e11⟩ : ∃ h11, h11 = mh_up h10 (ad 1289) (.inr (11, [.ref (ad 1008), .ref (ad 1011), .ref (ad 1017), .ref (ad 1020), .ref (ad 1023), .ref (ad 1026), .ref (ad 1031), .ref (ad 1033), .ref (ad 1050), .ref (ad 1258), .ref (ad 1265), .ref (ad 1271), .ref (ad 1277), .ref (ad 1281), .ref (ad 1285), .int 1])) := ⟨_, rfl⟩
          have k11 : ∀ x, x < 1289 → h11 (ad x) = h10 (ad x) := fun x hx => by rw [e11, mh_up_ne (ne (by omega) (by omega) (by omega))]
          obtain ⟨z1, z2⟩ := c3.hand (h' := h11) (hd := some (mh_mi σ p, mh_ly (mh_mi σ p) (mh_mi σ p).length s k)) (fun b hb => by
            rw [e11, mh_up_ne (hb 1289 (by omega))]
            exact (fr10 b (fun x hx => hb x (by omega))).trans (r3 b (hb 1286 (by omega)) (hb 1287 (by omega)) (hb 1288 (by omega))))
            ⟨_, l2.keep (k11 _ (by omega)) (k11 _ (by omega)) (k11 _ (by omega)) (k11 _ (by omega)) (fun j hj => k11 _ (by omega))⟩
            ⟨_, _, _, _, l3.keep (k11 _ (by omega)) (k11 _ (by omega)) (k11 _ (by omega)) (k11 _ (by omega)), rfl, rfl, mh_x_ms hC p1, fun i => Nat.le_trans (mh_ly_b _ _ _ _ i) s1⟩
            (by rw [e11]; exact mh_up_eq _ _ _)
          have hlt : lg_cmp (lN k) (mh_cw (mh_mi σ p) s) < 0 := by
            rw [mh_cw_pos w2]
            exact (mh_cltN k1 (by omega)).mpr w1
          have oW : h7 (ad 1033) = some (.inr (10, [.ref (ad 1034), .ref (ad 1036), .int (nI W7.choose_spec.choose_spec.choose - 1)])) := W7.choose_spec.choose_spec.choose_spec.1
          rw [if_pos hlt, mh_gR_eq (k := 14) c3.ob rfl, Option.bind_some, mh_cal_eq hp0.1, r1, Option.bind_some, mh_gR_eq (k := 7) ob7 rfl, Option.bind_some, mh_gR_eq (k := 14) ob7 rfl, Option.bind_some, mh_cal_eq oW, l1, Option.bind_some, mh_pZ_eq ob10 (show 15 < 16 by omega) (Or.inr rfl), Option.bind_some]
          show ∃ r h' σ', mh_rzx 1 (mh_up h10 (ad 1289) (.inr (11, [.ref (ad 1008), .ref (ad 1011), .ref (ad 1017), .ref (ad 1020), .ref (ad 1023), .ref (ad 1026), .ref (ad 1031), .ref (ad 1033), .ref (ad 1050), .ref (ad 1258), .ref (ad 1265), .ref (ad 1271), .ref (ad 1277), .ref (ad 1281), .ref (ad 1285), .int 1]))) = _ ∧ _
          rw [← e11]
          exact ⟨.inr 1, h11, _, rfl, Or.inr ⟨p, p1, rfl, Or.inr ⟨s, s1, rfl, Or.inl ⟨k, ⟨rfl, w1, w2⟩, rfl, rfl⟩⟩⟩, z1, (c4.C (by omega)).trans z2⟩
        · have hnl : ¬ lg_cmp (lN k) (mh_cw (mh_mi σ p) s) < 0 := fun q => by
            by_cases w2 : mh_wy (mh_mi σ p) (mh_mi σ p).length s ≤ 4000000000000000000
            · rw [mh_cw_pos w2] at q
              exact hP ⟨rfl, (mh_cltN k1 (by omega)).mp q, w2⟩
            · rw [mh_cw_neg w2] at q
              refine (mh_clt _ _).mp q (Or.inl ?_)
              refine Int64.lt_of_lt_of_le (b := 0) (by decide) (Int64.not_lt.mp hneg)
          rw [if_neg hnl]
          refine ⟨.inr 0, h4, σ, rfl, Or.inr ⟨p, p1, rfl, Or.inr ⟨s, s1, rfl, Or.inr ⟨fun k' hk => ?_, rfl, rfl⟩⟩⟩, c3, c4.C (by omega)⟩
          have e := (mh_lN_inj k1 (by have := hk.2.1; omega)).mp hk.1
          subst e
          exact hP hk
    · rw [mh_bx_l s2]
      exact ⟨_, h, σ, rfl, Or.inr ⟨p, p1, rfl, Or.inl ⟨s1, rfl, rfl⟩⟩, hC, mh_frC.rfl⟩
  · rw [mh_bx_l (mh_x_mintNo hx)]
    exact ⟨_, h, σ, rfl, Or.inl ⟨hx, rfl, rfl⟩, hC, mh_frC.rfl⟩
end MhWaysC
