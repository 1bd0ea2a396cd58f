theorem mh_dl_n1 {c1 n1 c2 n2 ks ms : List Nat} (h : mh_mv c1 ks c1 n1 c2 n2 = none) : mh_dl c1 n1 c2 n2 ks ms = none := by unfold mh_dl; rw [h]; rfl
theorem mh_dl_n2 {c1 n1 c2 n2 ks ms u v w : List Nat} (h : mh_mv c1 ks c1 n1 c2 n2 = some (u, v, w)) (h2 : mh_mv c2 ms v w c1 u = none) : mh_dl c1 n1 c2 n2 ks ms = none := by
  unfold mh_dl
  rw [h, Option.bind_some]
  show (mh_mv c2 ms v w c1 u).bind _ = none
  rw [h2]
  rfl
theorem mh_dl_s {c1 n1 c2 n2 ks ms u v w u' v' w' : List Nat} (h : mh_mv c1 ks c1 n1 c2 n2 = some (u, v, w)) (h2 : mh_mv c2 ms v w c1 u = some (u', v', w')) : mh_dl c1 n1 c2 n2 ks ms = if mh_dot v u' ≤ 20000 then some ((v', w'), (v, u')) else none := by
  unfold mh_dl
  rw [h, Option.bind_some]
  show (mh_mv c2 ms v w c1 u).bind _ = _
  rw [h2]
  rfl
theorem mh_cgv_own {c n ks : List Nat} {s : Nat} (hm : mh_ms c) (hv : mh_vp c n s ks) : mh_cgv c ks c n 0 := fun j _ h2 h3 => by
  have hp := mh_pf_get hm h2
  refine ⟨(mh_hd_iff hm (by have := hm.1.le j; omega)).mpr (mh_get_mem h2), ?_⟩
  rw [hp]
  exact hv.1.2 j h2
theorem mh_cgv_kp {c n c' n' ks : List Nat} {s : Nat} (hm : mh_ms c) (hv : mh_vp c n s ks) (hk : mh_kp c n c' n') : mh_cgv c ks c' n' 0 := fun j h1 h2 h3 => by
  obtain ⟨a1, a2⟩ := mh_cgv_own hm hv j h1 h2 h3
  obtain ⟨b1, b2⟩ := hk _ (by have := hm.1.le j; omega) a1
  exact ⟨b1, Nat.le_trans a2 b2⟩
section MhDealB
variable {h : mh_H} {ad : Nat → Nat} {σ : mh_Sg}
theorem mh_K_deal (hC : mh_CI h ad σ) (x1 x2 x3 : Int32) : ∃ r h' σ', f_X11_deal_e (ad 1289) x1 x2 x3 h = some (r, h') ∧ mh_Sdeal σ x1 x2 x3 r σ' ∧ mh_CI h' ad σ' ∧ mh_frC ad h h' := by
  unfold f_X11_deal_e
  obtain ⟨r, h1, e1, e2, e3, e4⟩ := mh_x_changeBack hC x1 x2 x3
  rw [mh_cal_eq hC.ob]
  rcases e2 with ⟨p, q, p1, q1, p2, q2, e2⟩ | ⟨e2, e5⟩
  · rcases e2 with ⟨s, s1, s2, s3, e2⟩ | ⟨e2, e5⟩
    · rcases e2 with ⟨ks, ms, k1, k2, k3, k4, k5, k6, k7⟩ | ⟨k1, k2⟩
      · rw [k2] at e1
        subst p2 q2 s2
        have nb : ¬ nI (mh_dot (mh_pc σ q) ms) = (-1 : Int32) := fun c => by
          have := nI_pos (n := mh_dot (mh_pc σ q) ms) (by omega)
          rw [c] at this
          exact this (by decide)
        have ne : ∀ {x y : Nat}, x < 1290 → y < 1290 → x ≠ y → ad x ≠ ad y := fun h1 h2 h3 => hC.1.ne h1 h2 h3
        obtain ⟨zp1, zp2, zp3, zp4⟩ := mh_x_pzz hC p1
        obtain ⟨zq1, zq2, zq3, zq4⟩ := mh_x_pzz hC q1
        -- copies
        obtain ⟨h24, fa, ga, a1, a2, a3, a4, fs1, a5⟩ := mh_x_copyFrom e3 p1 (Or.inl ⟨rfl, rfl⟩)
        obtain ⟨h29, fb, gb, b1, b2, b3, b4, fs2, b5⟩ := mh_x_copyFrom a3 q1 (Or.inr ⟨rfl, rfl⟩)
        have A29 := a2.keep (b4.at hC.1 (by omega) (by omega) (by omega)) (b4.at hC.1 (by omega) (by omega) (by omega)) (b4.at hC.1 (by omega) (by omega) (by omega)) (b4.at hC.1 (by omega) (by omega) (by omega))
        have t29 : ∀ k, k < 1277 → h29 (ad k) = h1 (ad k) := fun k hk => (b4.at hC.1 (by omega) (by omega) (by omega)).trans (a4.at hC.1 (by omega) (by omega) (by omega))
        have P29 := k3.keep (t29 _ (by omega)) (t29 _ (by omega)) (t29 _ (by omega)) (t29 _ (by omega)) (t29 _ (by omega)) (t29 _ (by omega))
        have T29 := k4.keep (t29 _ (by omega)) (t29 _ (by omega)) (t29 _ (by omega)) (t29 _ (by omega)) (t29 _ (by omega)) (t29 _ (by omega))
        -- the payer gives
        obtain ⟨⟨v34, h33⟩, c1, c2, c3, f1, g1, n1, f2, g2, c2', n2, c4, c5, c6, c7⟩ := mh_fx8_move P29 A29 b2 (s := s + mh_dot (mh_pc σ q) ms) (by omega) k5 (mh_cgv_own zp1 k5.1) zp3 zq3 ⟨ne (by omega) (by omega) (by omega), ne (by omega) (by omega) (by omega), ne (by omega) (by omega) (by omega), ne (by omega) (by omega) (by omega), ne (by omega) (by omega) (by omega)⟩ ⟨ne (by omega) (by omega) (by omega), ne (by omega) (by omega) (by omega), ne (by omega) (by omega) (by omega), ne (by omega) (by omega) (by omega), ne (by omega) (by omega) (by omega)⟩ ⟨ne (by omega) (by omega) (by omega), ne (by omega) (by omega) (by omega), ne (by omega) (by omega) (by omega), ne (by omega) (by omega) (by omega), ne (by omega) (by omega) (by omega)⟩ (ne (by omega) (by omega) (by omega)) (ne (by omega) (by omega) (by omega))
        have c2 : mh_PT h33 (ad 1265) (ad (1265 + 1)) (ad (1265 + 2)) (ad (1265 + 3)) (ad (1265 + 4)) (ad (1265 + 5)) (mh_pc σ p) (mh_pn σ p) := c2
        have c4 : mh_Pu h33 (ad 1277) (ad 1278) (ad 1279) (ad 1280) f1 g1 (mh_pc σ p) n1 := c4
        have c5 : mh_Pu h33 (ad 1281) (ad 1282) (ad 1283) (ad 1284) f2 g2 c2' n2 := c5
        have c3 : ∀ b, (∀ k, 1277 ≤ k → k < 1285 → b ≠ ad k) → h33 b = h29 b := fun b hb => c3 b (fun hq => by
          simp only [List.mem_cons, List.not_mem_nil, or_false] at hq
          rcases hq with hq | hq | hq | hq
          · exact hb 1280 (by omega) (by omega) hq
          · exact hb 1282 (by omega) (by omega) hq
          · exact hb 1283 (by omega) (by omega) hq
          · exact hb 1284 (by omega) (by omega) hq)
        obtain ⟨C33, F33⟩ := mh_x_two b3 c3 ⟨_, _, _, _, c4⟩ ⟨_, _, _, _, c5⟩
        have T33 := T29.keep (c3 _ (fun k _ _ => ne (by omega) (by omega) (by omega))) (c3 _ (fun k _ _ => ne (by omega) (by omega) (by omega))) (c3 _ (fun k _ _ => ne (by omega) (by omega) (by omega))) (c3 _ (fun k _ _ => ne (by omega) (by omega) (by omega))) (c3 _ (fun k _ _ => ne (by omega) (by omega) (by omega))) (c3 _ (fun k _ _ => ne (by omega) (by omega) (by omega)))
        have F0 : mh_frC ad h h33 := e4.trans ((a4.C (by omega)).trans ((b4.C (by omega)).trans F33))
        rw [mh_bx_r e1, if_neg nb, mh_gR_eq (k := 12) e3.ob rfl, Option.bind_some, mh_gR_eq (k := 0) e3.ob rfl, Option.bind_some, mh_cal_eq e3.A.1.1, mh_b2_eq (mh_fx3_purse e3.A.1 p1), mh_cal_eq a5, a1, Option.bind_some, mh_gR_eq (k := 13) a3.ob rfl, Option.bind_some, mh_gR_eq (k := 0) a3.ob rfl, Option.bind_some, mh_cal_eq a3.A.1.1, mh_b2_eq (mh_fx3_purse a3.A.1 q1), mh_cal_eq b5, b1, Option.bind_some, mh_gR_eq (k := 10) b3.ob rfl, Option.bind_some, mh_gR_eq (k := 12) b3.ob rfl, Option.bind_some, mh_gR_eq (k := 13) b3.ob rfl, Option.bind_some, nI_add, mh_cal_eq P29.o, mh_b2_eq c1]
        have fin : ∀ {r : Nat ⊕ Int32} {σ' : mh_Sg}, ((∃ c1 n1 c2 n2, mh_dl (mh_pc σ p) (mh_pn σ p) (mh_pc σ q) (mh_pn σ q) ks ms = some ((c1, n1), (c2, n2)) ∧ r = .inr (nI (ks.sum + ms.sum)) ∧ σ' = mh_setp (mh_setp (mh_bg σ) (mh_nx σ * 8 + p) c1 n1) (mh_nx σ * 8 + q) c2 n2) ∨ (mh_dl (mh_pc σ p) (mh_pn σ p) (mh_pc σ q) (mh_pn σ q) ks ms = none ∧ r = .inr (-2) ∧ σ' = σ)) → mh_Sdeal σ (nI p) (nI q) (nI s) r σ' := fun hy => Or.inl ⟨p, q, p1, q1, rfl, rfl, Or.inl ⟨s, s1, rfl, s3, Or.inl ⟨ks, ms, k1, hy⟩⟩⟩
        rcases c7 with ⟨d1, d2, d3⟩ | ⟨d1, d2⟩
        · have d1 : v34 = 1 := d1
          obtain ⟨m1, m2, m3, m4, m5, m6⟩ := mh_mv_ok _ _ _ _ _ _ _ _ _ d2 zp1 zp1 zp2 zq1 zq2 (mh_cgv_own zp1 k5.1)
          have hk5 : mh_dot (mh_pc σ p) ks = s + mh_dot (mh_pc σ q) ms := k5.1.2
          have cg2 : mh_cgv (mh_pc σ q) ms c2' n2 0 := mh_cgv_kp zq1 k6.1 m6
          -- the taker gives back
          obtain ⟨⟨v39, h38⟩, o1, o2, o3, f3, g3, n3, f4, g4, c4', n4, o4, o5, o6, o7⟩ := mh_fx8_move T33 c5 c4 (s := mh_dot (mh_pc σ q) ms) (by omega) k6 cg2 d3 c6 ⟨ne (by omega) (by omega) (by omega), ne (by omega) (by omega) (by omega), ne (by omega) (by omega) (by omega), ne (by omega) (by omega) (by omega), ne (by omega) (by omega) (by omega)⟩ ⟨ne (by omega) (by omega) (by omega), ne (by omega) (by omega) (by omega), ne (by omega) (by omega) (by omega), ne (by omega) (by omega) (by omega), ne (by omega) (by omega) (by omega)⟩ ⟨ne (by omega) (by omega) (by omega), ne (by omega) (by omega) (by omega), ne (by omega) (by omega) (by omega), ne (by omega) (by omega) (by omega), ne (by omega) (by omega) (by omega)⟩ (ne (by omega) (by omega) (by omega)) (ne (by omega) (by omega) (by omega))
          have o2 : mh_PT h38 (ad 1271) (ad 1272) (ad 1273) (ad 1274) (ad 1275) (ad 1276) (mh_pc σ q) (mh_pn σ q) := o2
          have o4 : mh_Pu h38 (ad 1281) (ad 1282) (ad 1283) (ad 1284) f3 g3 c2' n3 := o4
          have o5 : mh_Pu h38 (ad 1277) (ad 1278) (ad 1279) (ad 1280) f4 g4 c4' n4 := o5
          have o3 : ∀ b, (∀ k, 1277 ≤ k → k < 1285 → b ≠ ad k) → h38 b = h33 b := fun b hb => o3 b (fun hq => by
            simp only [List.mem_cons, List.not_mem_nil, or_false] at hq
            rcases hq with hq | hq | hq | hq
            · exact hb 1284 (by omega) (by omega) hq
            · exact hb 1278 (by omega) (by omega) hq
            · exact hb 1279 (by omega) (by omega) hq
            · exact hb 1280 (by omega) (by omega) hq)
          obtain ⟨C38, F38⟩ := mh_x_two C33 o3 ⟨_, _, _, _, o5⟩ ⟨_, _, _, _, o4⟩
          have P38 := c2.keep (o3 _ (fun k _ _ => ne (by omega) (by omega) (by omega))) (o3 _ (fun k _ _ => ne (by omega) (by omega) (by omega))) (o3 _ (fun k _ _ => ne (by omega) (by omega) (by omega))) (o3 _ (fun k _ _ => ne (by omega) (by omega) (by omega))) (o3 _ (fun k _ _ => ne (by omega) (by omega) (by omega))) (o3 _ (fun k _ _ => ne (by omega) (by omega) (by omega)))
          rw [d1, if_neg (by decide), mh_gR_eq (k := 11) C33.ob rfl, Option.bind_some, mh_gR_eq (k := 13) C33.ob rfl, Option.bind_some, mh_gR_eq (k := 12) C33.ob rfl, Option.bind_some, mh_cal_eq T33.o, mh_b2_eq o1]
          rcases o7 with ⟨i1, i2, i3⟩ | ⟨i1, i2⟩
          · have i1 : v39 = 1 := i1
            obtain ⟨j1, j2, j3, j4, j5, j6⟩ := mh_mv_ok _ _ _ _ _ _ _ _ _ i2 zq1 m3 m4 zp1 m1 cg2
            rw [i1, if_neg (by decide)]
            obtain ⟨r, h', σ', y1, y2, y3, y4⟩ := mh_x_b94 C38 p1 q1 (s := s) (B := mh_dot (mh_pc σ q) ms) o5 o4 P38 o2 k5 k6 k7 ⟨j3, j4, i3, by omega⟩ m3 j1 o6 (by omega)
            refine ⟨r, h', σ', y1, fin ?_, y3, F0.trans (F38.trans y4)⟩
            rw [mh_dl_s d2 i2]
            rcases y2 with ⟨y5, y6, y7⟩ | ⟨y5, y6, y7⟩
            · rw [if_pos y5]
              exact Or.inl ⟨_, _, _, _, rfl, y6, y7⟩
            · rw [if_neg y5]
              exact Or.inr ⟨rfl, y6, y7⟩
          · have i1 : v39 = 0 := i1
            rw [i1, if_pos rfl]
            exact ⟨_, h38, σ, rfl, fin (Or.inr ⟨mh_dl_n2 d2 i2, rfl, rfl⟩), C38, F0.trans F38⟩
        · have d1 : v34 = 0 := d1
          rw [d1, if_pos rfl]
          exact ⟨_, h33, σ, rfl, fin (Or.inr ⟨mh_dl_n1 d2, rfl, rfl⟩), C33, F0⟩
      · rw [k2] at e1
        rw [mh_bx_r e1, if_pos rfl]
        exact ⟨_, h1, σ, rfl, Or.inl ⟨p, q, p1, q1, p2, q2, Or.inl ⟨s, s1, s2, s3, Or.inr ⟨k1, rfl, rfl⟩⟩⟩, e3, e4⟩
    · rw [e5] at e1
      rw [mh_bx_l e1]
      exact ⟨_, h1, σ, rfl, Or.inl ⟨p, q, p1, q1, p2, q2, Or.inr ⟨e2, rfl, rfl⟩⟩, e3, e4⟩
  · rw [e5] at e1
    rw [mh_bx_l e1]
    exact ⟨_, h1, σ, rfl, Or.inr ⟨e2, rfl, rfl⟩, e3, e4⟩
end MhDealB
