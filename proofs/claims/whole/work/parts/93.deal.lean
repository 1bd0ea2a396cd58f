def mh_Sdeal (σ : mh_Sg) (x1 x2 x3 : Int32) (r : Nat ⊕ Int32) (σ' : mh_Sg) : Prop := mh_Bchg σ x1 x2 x3 (fun p q _ ks ms => (∃ c1 n1 c2 n2, mh_dl (mh_pc σ p) (mh_pn σ p) (mh_pc σ q) (mh_pn σ q) ks ms = some ((c1, n1), (c2, n2)) ∧ r = .inr (nI (ks.sum + ms.sum)) ∧ σ' = mh_setp (mh_setp (mh_bg σ) (mh_nx σ * 8 + p) c1 n1) (mh_nx σ * 8 + q) c2 n2) ∨ (mh_dl (mh_pc σ p) (mh_pn σ p) (mh_pc σ q) (mh_pn σ q) ks ms = none ∧ r = .inr (-2) ∧ σ' = σ)) (r = .inr (-1) ∧ σ' = σ) (fun e => r = .inl e ∧ σ' = σ)
section MhDeal
variable {h : mh_H} {ad : Nat → Nat} {σ : mh_Sg}
theorem mh_x_copyTo (hC : mh_CI h ad σ) {p : Nat} (hp : p < 8) {A : Nat} (hA : 1008 ≤ A) (hA2 : A + 3 < 1290) {f g : Nat → Int32} {c n : List Nat} (hq : mh_Pu h (ad A) (ad (A + 1)) (ad (A + 2)) (ad (A + 3)) f g c n) (hz : mh_pz c n) : ∃ h', f_X7_copy_e (ad (6 * (σ.1.1 * 8 + p) + 2)) (ad A) h = some h' ∧ mh_CI h' ad (mh_setp σ (σ.1.1 * 8 + p) c n) ∧ mh_frC ad h h' ∧ ∀ k, 1008 ≤ k → k < 1290 → h' (ad k) = h (ad k) := by
  have hn := hC.now
  have ne : ∀ {x y : Nat}, x < 1290 → y < 1290 → x ≠ y → ad x ≠ ad y := fun h1 h2 h3 => hC.1.ne h1 h2 h3
  obtain ⟨f0, g0, hp0⟩ := mh_x_pu hC hp
  obtain ⟨h', f', g', e1, e2, e3⟩ := mh_fx7_copy hp0 hq (ne (by omega) (by omega) (by omega)) (ne (by omega) (by omega) (by omega)) (ne (by omega) (by omega) (by omega)) (ne (by omega) (by omega) (by omega)) (ne (by omega) (by omega) (by omega)) (ne (by omega) (by omega) (by omega)) (ne (by omega) (by omega) (by omega)) (ne (by omega) (by omega) (by omega)) (ne (by omega) (by omega) (by omega)) (ne (by omega) (by omega) (by omega)) (ne (by omega) (by omega) (by omega)) (ne (by omega) (by omega) (by omega)) (ne (by omega) (by omega) (by omega)) (ne (by omega) (by omega) (by omega)) (ne (by omega) (by omega) (by omega)) (ne (by omega) (by omega) (by omega)) (ne (by omega) (by omega) (by omega)) (ne (by omega) (by omega) (by omega))
  obtain ⟨z1, z2⟩ := hC.purse (h' := h') (by omega) e2 hz (fun b hb => by
    simp only [List.mem_cons, List.not_mem_nil, or_false, not_or] at hb
    exact e3 b hb.2.1 hb.2.2.1 hb.2.2.2)
  exact ⟨h', e1, z1, z2, fun k k1 k2 => e3 _ (ne (by omega) (by omega) (by omega)) (ne (by omega) (by omega) (by omega)) (ne (by omega) (by omega) (by omega))⟩
theorem mh_x_copyFrom (hC : mh_CI h ad σ) {p : Nat} (hp : p < 8) {i B : Nat} (hB : (i = 12 ∧ B = 1277) ∨ (i = 13 ∧ B = 1281)) : ∃ h' f g, f_X7_copy_e (ad B) (ad (6 * (σ.1.1 * 8 + p) + 2)) h = some h' ∧ mh_Pu h' (ad B) (ad (B + 1)) (ad (B + 2)) (ad (B + 3)) f g (mh_pc σ p) (mh_pn σ p) ∧ mh_CI h' ad σ ∧ mh_fR ad B (B + 4) h h' ∧ (∃ fs, h (ad B) = some (.inr (7, fs))) := by
  have hn := hC.now
  have hB2 : 1277 ≤ B ∧ B ≤ 1281 := by rcases hB with ⟨_, q⟩ | ⟨_, q⟩ <;> omega
  have ne : ∀ {x y : Nat}, x < 1290 → y < 1290 → x ≠ y → ad x ≠ ad y := fun h1 h2 h3 => hC.1.ne h1 h2 h3
  obtain ⟨f0, g0, hq⟩ := mh_x_pu hC hp
  have hb : ∃ f g c n, mh_Pu h (ad B) (ad (B + 1)) (ad (B + 2)) (ad (B + 3)) f g c n := by
    rcases hB with ⟨e1, e2⟩ | ⟨e1, e2⟩
    · subst e1 e2; exact hC.2 12 (by omega)
    · subst e1 e2; exact hC.2 13 (by omega)
  obtain ⟨f, g, c, n, hp0⟩ := hb
  obtain ⟨h', f', g', e1, e2, e3⟩ := mh_fx7_copy hp0 hq (ne (by omega) (by omega) (by omega)) (ne (by omega) (by omega) (by omega)) (ne (by omega) (by omega) (by omega)) (ne (by omega) (by omega) (by omega)) (ne (by omega) (by omega) (by omega)) (ne (by omega) (by omega) (by omega)) (ne (by omega) (by omega) (by omega)) (ne (by omega) (by omega) (by omega)) (ne (by omega) (by omega) (by omega)) (ne (by omega) (by omega) (by omega)) (ne (by omega) (by omega) (by omega)) (ne (by omega) (by omega) (by omega)) (ne (by omega) (by omega) (by omega)) (ne (by omega) (by omega) (by omega)) (ne (by omega) (by omega) (by omega)) (ne (by omega) (by omega) (by omega)) (ne (by omega) (by omega) (by omega)) (ne (by omega) (by omega) (by omega))
  have fr : mh_fR ad B (B + 4) h h' := fun b hb => e3 b (hb _ (by omega) (by omega)) (hb _ (by omega) (by omega)) (hb _ (by omega) (by omega))
  rcases hB with ⟨e4, e5⟩ | ⟨e4, e5⟩
  · subst e4 e5
    exact ⟨h', f', g', e1, e2, (hC.same 12 (by omega) fr ⟨_, _, _, _, e2⟩).1, fr, _, hp0.1⟩
  · subst e4 e5
    exact ⟨h', f', g', e1, e2, (hC.same 13 (by omega) fr ⟨_, _, _, _, e2⟩).1, fr, _, hp0.1⟩
theorem mh_x_b94 (hC : mh_CI h ad σ) {p q s B : Nat} (p1 : p < 8) (q1 : q < 8) {f1 g1 f2 g2 : Nat → Int32} {a1 m1 a2 m2 c1 n1 c2 n2 ks ms : List Nat} (hA : mh_Pu h (ad 1277) (ad 1278) (ad 1279) (ad 1280) f1 g1 a1 m1) (hT : mh_Pu h (ad 1281) (ad 1282) (ad 1283) (ad 1284) f2 g2 a2 m2) (T1 : mh_PT h (ad 1265) (ad 1266) (ad 1267) (ad 1268) (ad 1269) (ad 1270) c1 n1) (T2 : mh_PT h (ad 1271) (ad 1272) (ad 1273) (ad 1274) (ad 1275) (ad 1276) c2 n2) (b1 : mh_bv c1 n1 (s + B) ks) (b2 : mh_bv c2 n2 B ms) (hs : s + B ≤ 20000) (z1 : mh_pz a1 m1) (w1 : mh_ms a2) (w2 : m2.length = a2.length) (w3 : ∀ j, m2.getD j 0 ≤ 20) (w4 : mh_dot a2 m2 ≤ 40000) : ∃ r h' σ', f_X11_deal_b94 (ad 1289) (nI p) (nI q) (nI s) (nI B) 1 h = some (r, h') ∧ ((mh_dot a2 m2 ≤ 20000 ∧ r = .inr (nI (ks.sum + ms.sum)) ∧ σ' = mh_setp (mh_setp (mh_bg σ) (mh_nx σ * 8 + p) a1 m1) (mh_nx σ * 8 + q) a2 m2) ∨ (¬ mh_dot a2 m2 ≤ 20000 ∧ r = .inr (-2) ∧ σ' = σ)) ∧ mh_CI h' ad σ' ∧ mh_frC ad h h' := by
  unfold f_X11_deal_b94
  rw [if_neg (by decide), mh_gR_eq (k := 13) hC.ob rfl, Option.bind_some, mh_cal_eq hT.1, mh_b2_eq (mh_fx7_total hT)]
  by_cases hle : mh_dot a2 m2 ≤ 20000
  · rw [if_pos ((mh_ler (b := 20000) 20000 rfl (by omega) (by omega)).mpr hle)]
    obtain ⟨h5, e1, e2, e3⟩ := mh_x_begin hC
    have k5 : ∀ k, 1011 ≤ k → k < 1290 → h5 (ad k) = h (ad k) := fun k k1 k2 => mh_begin_at hC e1 k1 k2
    have hA5 := hA.keep (k5 _ (by omega) (by omega)) (k5 _ (by omega) (by omega)) (k5 _ (by omega) (by omega)) (k5 _ (by omega) (by omega))
    obtain ⟨fp, gp, up⟩ := mh_x_pu e2 p1
    obtain ⟨h10, d1, d2, d3, d4⟩ := mh_x_copyTo e2 p1 (A := 1277) (by omega) (by omega) hA5 z1
    have k10 : ∀ k, 1011 ≤ k → k < 1290 → h10 (ad k) = h (ad k) := fun k k1 k2 => (d4 k (by omega) k2).trans (k5 k k1 k2)
    have hT10 := hT.keep (k10 _ (by omega) (by omega)) (k10 _ (by omega) (by omega)) (k10 _ (by omega) (by omega)) (k10 _ (by omega) (by omega))
    obtain ⟨fq, gq, uq⟩ := mh_x_pu d2 q1
    obtain ⟨h15, y1, y2, y3, y4⟩ := mh_x_copyTo d2 q1 (A := 1281) (by omega) (by omega) hT10 ⟨w1, w2, w3, hle⟩
    have k15 : ∀ k, 1011 ≤ k → k < 1290 → h15 (ad k) = h (ad k) := fun k k1 k2 => (y4 k (by omega) k2).trans (k10 k k1 k2)
    have T1' := T1.keep (k15 _ (by omega) (by omega)) (k15 _ (by omega) (by omega)) (k15 _ (by omega) (by omega)) (k15 _ (by omega) (by omega)) (k15 _ (by omega) (by omega)) (k15 _ (by omega) (by omega))
    have T2' := T2.keep (k15 _ (by omega) (by omega)) (k15 _ (by omega) (by omega)) (k15 _ (by omega) (by omega)) (k15 _ (by omega) (by omega)) (k15 _ (by omega) (by omega)) (k15 _ (by omega) (by omega))
    rw [mh_gR_eq (k := 0) hC.ob rfl, Option.bind_some, mh_cal_eq hC.A.1.1, e1, Option.bind_some, mh_gR_eq (k := 0) e2.ob rfl, Option.bind_some, mh_cal_eq e2.A.1.1, mh_b2_eq (mh_fx3_purse e2.A.1 p1), mh_gR_eq (k := 12) e2.ob rfl, Option.bind_some, mh_cal_eq up.1, d1, Option.bind_some, mh_gR_eq (k := 0) d2.ob rfl, Option.bind_some, mh_cal_eq d2.A.1.1, mh_b2_eq (mh_fx3_purse d2.A.1 q1), mh_gR_eq (k := 13) d2.ob rfl, Option.bind_some, mh_cal_eq uq.1, y1, Option.bind_some, mh_cal_eq y2.ob, mh_b2_eq (mh_x_moved y2 T1' T2' b1 b2 hs)]
    exact ⟨_, h15, _, rfl, Or.inl ⟨hle, rfl, rfl⟩, y2, e3.trans (d3.trans y3)⟩
  · rw [if_neg (fun q => hle ((mh_ler (b := 20000) 20000 rfl (by omega) (by omega)).mp q))]
    exact ⟨_, h, σ, rfl, Or.inr ⟨hle, rfl, rfl⟩, hC, mh_frC.rfl⟩
theorem mh_x_two (hC : mh_CI h ad σ) {h' : mh_H} (hf : ∀ b, (∀ k, 1277 ≤ k → k < 1285 → b ≠ ad k) → h' b = h b) (h12 : ∃ f g c n, mh_Pu h' (ad 1277) (ad 1278) (ad 1279) (ad 1280) f g c n) (h13 : ∃ f g c n, mh_Pu h' (ad 1281) (ad 1282) (ad 1283) (ad 1284) f g c n) : mh_CI h' ad σ ∧ mh_frC ad h h' :=
  hC.mul [12, 13] (fun i hi => by simp only [List.mem_cons, List.not_mem_nil, or_false] at hi; omega) (fun b hb => hf b (fun k k1 k2 => by
    by_cases hk : k < 1281
    · exact hb 12 (by decide) k k1 hk
    · exact hb 13 (by decide) k (show 1281 ≤ k by omega) k2))
    (fun i hi => by
      simp only [List.mem_cons, List.not_mem_nil, or_false] at hi
      rcases hi with hi | hi
      · subst hi; exact h12
      · subst hi; exact h13)
    (fun _ _ _ q => q)
end MhDeal
