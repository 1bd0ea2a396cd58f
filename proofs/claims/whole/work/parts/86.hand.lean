def mh_Bhand (hd : Option (List Nat × List Nat)) (x : Int32) (B : List Nat → List Nat → Nat → Prop) (no : Prop) : Prop := (∃ c n i, hd = some (c, n) ∧ i < c.length ∧ x = nI i ∧ B c n i) ∨ ((∀ c n, hd = some (c, n) → ∀ i, i < c.length → x ≠ nI i) ∧ no)
def mh_Sput (σ : mh_Sg) (x1 x2 : Int32) (r : Nat ⊕ Int32) (σ' : mh_Sg) : Prop := mh_Bhand σ.2.2.2 x1 (fun c n i => (∃ k, k ≤ 3000 ∧ x2 = nI k ∧ r = .inr (nI (n.getD i 0)) ∧ σ' = mh_seth σ (some (c, n.set i k))) ∨ ((∀ k, k ≤ 3000 → x2 ≠ nI k) ∧ r = .inl 2 ∧ σ' = σ)) (r = .inl 1 ∧ σ' = σ)
def mh_Srank (hd : Option (List Nat × List Nat)) (r : Nat ⊕ Int64) : Prop := (hd = none ∧ r = .inl 1) ∨ ∃ c n, hd = some (c, n) ∧ ((mh_dot c n ≤ 3000 ∧ mh_wy c c.length (mh_dot c n) ≤ 4000000000000000000 ∧ r = .inr (lN (mh_rk c n c.length (mh_dot c n)))) ∨ (¬ (mh_dot c n ≤ 3000 ∧ mh_wy c c.length (mh_dot c n) ≤ 4000000000000000000) ∧ r = .inr (-1)))
def mh_Bap (x : Int32) (cs : List Nat) (r : Nat ⊕ Int32) : Prop := (∃ s, s ≤ 3000 ∧ x = nI s ∧ ((mh_wy cs cs.length s = 0 ∧ r = .inr (-1)) ∨ (1 ≤ mh_wy cs cs.length s ∧ mh_wy cs cs.length s ≤ 200 ∧ r = .inr (nI (mh_pm (mh_wy cs cs.length s) (fun p q => mh_df (mh_ly cs cs.length s p) (mh_ly cs cs.length s q)) (mh_wy cs cs.length s - 1)).2.2)) ∨ (200 < mh_wy cs cs.length s ∧ r = .inr (-2)))) ∨ ((∀ s, s ≤ 3000 → x ≠ nI s) ∧ r = .inl 2)
theorem mh_dot_b : ∀ (cs ns : List Nat), (∀ x, x ∈ cs → x ≤ 300) → (∀ i, ns.getD i 0 ≤ 3000) → mh_dot cs ns ≤ 900000 * cs.length := by
  intro cs
  induction cs with
  | nil => intro ns _ _; cases ns <;> exact Nat.zero_le _
  | cons c cs ih =>
    intro ns h1 h2
    cases ns with
    | nil => exact Nat.zero_le _
    | cons n ns =>
      have a := ih ns (fun x hx => h1 x (List.mem_cons_of_mem c hx)) (fun i => h2 (i + 1))
      have b : n * c ≤ 3000 * 300 := Nat.mul_le_mul (h2 0) (h1 c List.mem_cons_self)
      rw [mh_dot, List.length_cons]
      omega
section MhHandC
variable {h : mh_H} {ad : Nat → Nat} {σ : mh_Sg}
theorem mh_CI.held (hC : mh_CI h ad σ) : ∃ f g c n, mh_Pu h (ad 1285) (ad 1286) (ad 1287) (ad 1288) f g c n ∧ mh_hh σ.2.2.2 c n := hC.2 14 (by omega)
theorem mh_x_checkHeld (hC : mh_CI h ad σ) (x : Int32) : (∃ c n i f g, σ.2.2.2 = some (c, n) ∧ i < c.length ∧ x = nI i ∧ mh_Pu h (ad 1285) (ad 1286) (ad 1287) (ad 1288) f g c n ∧ mh_ms c ∧ (∀ i, n.getD i 0 ≤ 3000) ∧ f_X11_checkHeld_e (ad 1289) x h = some (.inr (), h)) ∨ ((∀ c n, σ.2.2.2 = some (c, n) → ∀ i, i < c.length → x ≠ nI i) ∧ f_X11_checkHeld_e (ad 1289) x h = some (.inl 1, h)) := by
  unfold f_X11_checkHeld_e
  obtain ⟨f, g, c, n, hp, hh⟩ := hC.held
  rw [mh_gI_eq (k := 15) hC.ob rfl, Option.bind_some]
  cases hd : σ.2.2.2 with
  | none =>
    right
    exact ⟨fun c n q => (by cases q), by rw [if_pos (show mh_bz (none : Option (List Nat × List Nat)).isSome = 0 from rfl)]; rfl⟩
  | some v =>
    obtain ⟨hc, hn⟩ := v
    rw [hd] at hh
    obtain ⟨e1, e2, e3, e4⟩ := hh
    subst e1 e2
    have hl := e3.1.1
    rw [if_neg (show ¬ mh_bz (some (c, n)).isSome = 0 from show ¬ (1 : Int32) = 0 by decide)]
    by_cases hneg : x < 0
    · right
      refine ⟨fun c' n' q i hi e => ?_, by rw [if_pos hneg]; rfl⟩
      cases q
      rw [e] at hneg
      exact nI_pos (by omega) hneg
    · rw [if_neg hneg, mh_gR_eq (k := 14) hC.ob rfl, Option.bind_some, mh_cal_eq hp.1, mh_b2_eq (mh_fx7_coins hp), mh_cal_eq hp.2.1.1, mh_b2_eq (mh_fx1_count hp.2.1)]
      rcases pk_ix x (n := c.length) (by omega) with q | q | ⟨i, i1, i2⟩
      · exact absurd q hneg
      · right
        refine ⟨fun c' n' q' i hi e => ?_, by rw [if_neg (Int32.not_lt.mpr q)]; rfl⟩
        cases q'
        rw [e] at q
        have := (nI_leI (by omega) (by omega)).mp q
        omega
      · left
        refine ⟨c, n, i, f, g, rfl, i1, i2, hp, e3, e4, ?_⟩
        rw [i2, if_pos ((nI_ltI (by omega) (by omega)).mpr i1)]
theorem mh_K_hand (hC : mh_CI h ad σ) (x : Int32) : ∃ r, f_X11_hand_e (ad 1289) x h = some (r, h) ∧ mh_Bhand σ.2.2.2 x (fun _ n i => r = .inr (nI (n.getD i 0))) (r = .inl 1) := by
  unfold f_X11_hand_e
  rw [mh_cal_eq hC.ob]
  rcases mh_x_checkHeld hC x with ⟨c, n, i, f, g, h1, h2, h3, h4, h5, h6, h7⟩ | ⟨h1, h2⟩
  · have hl := h5.1.1
    rw [mh_bx_r h7, mh_gR_eq (k := 14) hC.ob rfl, Option.bind_some, mh_cal_eq h4.1, h3, mh_b2_eq (mh_fx7_often h4 (by omega))]
    exact ⟨_, rfl, Or.inl ⟨c, n, i, h1, h2, rfl, rfl⟩⟩
  · rw [mh_bx_l h2]
    exact ⟨_, rfl, Or.inr ⟨h1, rfl⟩⟩
theorem mh_K_put (hC : mh_CI h ad σ) (x1 x2 : Int32) : ∃ r h' σ', f_X11_put_e (ad 1289) x1 x2 h = some (r, h') ∧ mh_Sput σ x1 x2 r σ' ∧ mh_CI h' ad σ' ∧ mh_frC ad h h' := by
  unfold f_X11_put_e
  rw [mh_cal_eq hC.ob]
  rcases mh_x_checkHeld hC x1 with ⟨c, n, i, f, g, h1, h2, h3, h4, h5, h6, h7⟩ | ⟨h1, h2⟩
  · have hl := h5.1.1
    subst h3
    rw [mh_bx_r h7]
    rcases mh_range (x := x2) (lo := 0) (hi := 3000) (a := 0) (b := 3000) rfl rfl (by omega) (by omega) with ⟨r1, r2⟩ | ⟨r1, r2, r3⟩ | ⟨r1, r2, k, r3, r4, r5⟩
    · rw [if_pos r1]
      exact ⟨_, h, σ, rfl, Or.inl ⟨c, n, i, h1, h2, rfl, Or.inr ⟨fun k hk => r2 k (Nat.zero_le _) hk, rfl, rfl⟩⟩, hC, mh_frC.rfl⟩
    · rw [if_neg r1, if_neg r2]
      exact ⟨_, h, σ, rfl, Or.inl ⟨c, n, i, h1, h2, rfl, Or.inr ⟨fun k hk => r3 k (Nat.zero_le _) hk, rfl, rfl⟩⟩, hC, mh_frC.rfl⟩
    · subst r5
      obtain ⟨y1, y2⟩ := mh_fx7_set h4 (hC.1.ne (by omega) (by omega) (by omega)) (hC.1.ne (by omega) (by omega) (by omega)) (hC.1.ne (by omega) (by omega) (by omega)) h2 k
      obtain ⟨h3, e3⟩ : ∃ h3, h3 = mh_up h (ad 1288) (.inl (0, 12, .inl (upd g i (nI k)))) := ⟨_, rfl⟩
      rw [← e3] at y1 y2
      obtain ⟨z1, z2⟩ := hC.upd (h' := h3) (σ' := mh_seth σ (some (c, n.set i k))) 14 (by omega) (fun b hb => by rw [e3, mh_up_ne (hb 1288 (by decide) (by decide))]) ⟨_, _, _, _, y2, rfl, rfl, h5, fun j => by
          rw [List.getD_eq_getElem?_getD, List.getElem?_set]
          have hj := h6 j
          rw [List.getD_eq_getElem?_getD] at hj
          split
          · split
            · exact r4
            · exact Nat.zero_le _
          · exact hj⟩
        (fun j hj hn hc => by
          by_cases e : j = 15
          · subst e
            have hc : h (ad 1289) = some (.inr (11, [.ref (ad 1008), .ref (ad 1011), .ref (ad 1017), .ref (ad 1020), .ref (ad 1023), .ref (ad 1026), .ref (ad 1031), .ref (ad 1033), .ref (ad 1050), .ref (ad 1258), .ref (ad 1265), .ref (ad 1271), .ref (ad 1277), .ref (ad 1281), .ref (ad 1285), .int (mh_bz σ.2.2.2.isSome)])) := hc
            rw [h1] at hc
            exact hc
          · obtain rfl | rfl | rfl | rfl | rfl | rfl | rfl | rfl | rfl | rfl | rfl | rfl | rfl | rfl : j = 0 ∨ j = 1 ∨ j = 2 ∨ j = 3 ∨ j = 4 ∨ j = 5 ∨ j = 6 ∨ j = 7 ∨ j = 8 ∨ j = 9 ∨ j = 10 ∨ j = 11 ∨ j = 12 ∨ j = 13 := by omega
            all_goals exact hc)
      rw [if_neg r1, if_pos r2, mh_gR_eq (k := 14) hC.ob rfl, Option.bind_some, mh_cal_eq h4.1, mh_b2_eq (mh_fx7_often h4 (by omega)), mh_gR_eq (k := 14) hC.ob rfl, Option.bind_some, mh_cal_eq h4.1, y1, Option.bind_some]
      exact ⟨_, h3, _, rfl, Or.inl ⟨c, n, i, h1, h2, rfl, Or.inl ⟨k, r4, rfl, rfl, rfl⟩⟩, z1, z2⟩
  · rw [mh_bx_l h2]
    exact ⟨_, h, σ, rfl, Or.inr ⟨h1, rfl, rfl⟩, hC, mh_frC.rfl⟩
theorem mh_cw2 {cs : List Nat} {s : Nat} : lg_cmp (mh_cw cs s) (-2 : Int64) = 0 ↔ ¬ mh_wy cs cs.length s ≤ 4000000000000000000 := by
  rw [mh_cmp0]
  constructor
  · intro q hle
    rw [mh_cw_pos hle] at q
    have b0 : ¬ lN (mh_wy cs cs.length s) < 0 := fun c => by
      have := (pk_lLT (b := 0) (by omega) (by omega)).mp c
      omega
    rw [q] at b0
    exact b0 (by decide)
  · exact mh_cw_neg
theorem mh_K_rank (hC : mh_CI h ad σ) : ∃ r h', f_X11_rank_e (ad 1289) h = some (r, h') ∧ mh_Srank σ.2.2.2 r ∧ mh_CI h' ad σ ∧ mh_frC ad h h' := by
  unfold f_X11_rank_e
  obtain ⟨f, g, c, n, hp, hh⟩ := hC.held
  rw [mh_gI_eq (k := 15) hC.ob rfl, Option.bind_some]
  cases hd : σ.2.2.2 with
  | none =>
    rw [if_pos (show mh_bz (none : Option (List Nat × List Nat)).isSome = 0 from rfl)]
    exact ⟨_, h, rfl, Or.inl ⟨rfl, rfl⟩, hC, mh_frC.rfl⟩
  | some v =>
    obtain ⟨hc, hn⟩ := v
    rw [hd] at hh
    obtain ⟨e1, e2, e3, e4⟩ := hh
    subst e1 e2
    have hl := e3.1.1
    have hb := mh_dot_b c n (fun x hx => (e3.1.2 x hx).2) e4
    rw [if_neg (show ¬ mh_bz (some (c, n)).isSome = 0 from show ¬ (1 : Int32) = 0 by decide), mh_gR_eq (k := 14) hC.ob rfl, Option.bind_some, mh_cal_eq hp.1, mh_b2_eq (mh_fx7_total hp)]
    by_cases hle : mh_dot c n ≤ 3000
    · obtain ⟨h1, c1, c2, c3, c4⟩ := mh_x_cw hC hp.2.1 e3 (hC.1.ne (by omega) (by omega) (by omega)) (hC.1.ne (by omega) (by omega) (by omega)) hle
      rw [if_neg (fun q => absurd ((mh_ltl (a := 3000) 3000 rfl (by omega) (by omega)).mp q) (by omega)), mh_gR_eq (k := 14) hC.ob rfl, Option.bind_some, mh_cal_eq hp.1, mh_b2_eq (mh_fx7_coins hp), mh_cal_eq hC.ob, mh_b2_eq c1]
      by_cases hw : mh_wy c c.length (mh_dot c n) ≤ 4000000000000000000
      · have at1 : ∀ k, 1285 ≤ k → k < 1289 → h1 (ad k) = h (ad k) := fun k k1 k2 => c4.at hC.1 (by omega) (by omega) (by omega)
        have hp1 : mh_Pu h1 (ad 1285) (ad 1286) (ad 1287) (ad 1288) f g c n := hp.keep (at1 _ (by omega) (by omega)) (at1 _ (by omega) (by omega)) (at1 _ (by omega) (by omega)) (at1 _ (by omega) (by omega))
        obtain ⟨h2, g1, g2, g3⟩ := mh_fx10_rankOf (mh_wr hC.1) c2 hp1 e4 hle
        have f2 : mh_fR ad 1033 1050 h1 h2 := mh_rw_rg (by omega) (by omega) g3
        obtain ⟨z1, z2⟩ := c3.same 7 (by omega) f2 ⟨_, g2⟩
        have oW : h1 (ad 1033) = some (.inr (10, [.ref (ad 1034), .ref (ad 1036), .int (nI c2.choose_spec.choose_spec.choose - 1)])) := c2.choose_spec.choose_spec.choose_spec.1
        rw [if_neg (fun q => mh_cw2.mp q hw), mh_gR_eq (k := 7) c3.ob rfl, Option.bind_some, mh_gR_eq (k := 14) c3.ob rfl, Option.bind_some, mh_cal_eq oW, mh_b2_eq g1]
        exact ⟨_, h2, rfl, Or.inr ⟨c, n, rfl, Or.inl ⟨hle, hw, rfl⟩⟩, z1, (c4.C (by omega)).trans z2⟩
      · rw [if_pos (mh_cw2.mpr hw)]
        exact ⟨_, h1, rfl, Or.inr ⟨c, n, rfl, Or.inr ⟨fun q => hw q.2, rfl⟩⟩, c3, c4.C (by omega)⟩
    · rw [if_pos ((mh_ltl (a := 3000) 3000 rfl (by omega) (by omega)).mpr (by omega))]
      exact ⟨_, h, rfl, Or.inr ⟨c, n, rfl, Or.inr ⟨fun q => hle q.1, rfl⟩⟩, hC, mh_frC.rfl⟩
end MhHandC
