/-- deal -/
theorem mh_fs2_at {σ : mh_Sg} {f : Nat → List Nat} {p q r : Nat} {C D : List Nat} (hr : r < 8) : mh_fs (mh_fs (mh_cp σ f) (mh_nx σ * 8 + p) C) (mh_nx σ * 8 + q) D (mh_nx σ * 8 + r) = if r = q then D else if r = p then C else f (σ.1.1 * 8 + r) := by
  rw [← mh_fs_at hr]
  by_cases e : r = q
  · rw [if_pos e]
    exact if_pos (by rw [e])
  · rw [if_neg e]
    exact if_neg (by omega)
theorem mh_fs2_off {σ : mh_Sg} {f : Nat → List Nat} {p q r j : Nat} {C D : List Nat} (hp : p < 8) (hq : q < 8) (hr : r < 8) (hn : j ≠ mh_nx σ) : mh_fs (mh_fs (mh_cp σ f) (mh_nx σ * 8 + p) C) (mh_nx σ * 8 + q) D (j * 8 + r) = f (j * 8 + r) := by
  rw [← mh_fs_off (f := f) (p := p) (C := C) hp hr hn]
  exact if_neg (by omega)
section MhModelDealB
variable {h : mh_H} {bd : Nat → Nat} {σ : mh_Sg} {F : Nat → Int32}
theorem mh_RI.ten (hR : mh_RI h bd σ F) {h' : mh_H} (hf : mh_fr [bd 96, bd 97, bd 98] h h') {f g k : Nat → Int32} (e1 : h' (bd 96) = some (.inl (0, 12, .inl f))) (e2 : h' (bd 97) = some (.inl (0, 12, .inl g))) (e3 : h' (bd 98) = some (.inl (0, 50, .inl k))) : mh_RI h' bd σ F ∧ mh_frR bd h h' := by
  obtain ⟨fa, fb, fc, fd, fe, ff, w1, w0, w2, w3, w4, w5, w6⟩ := hR.2 10 (by omega)
  have hI := hR.1
  refine hR.one 10 (by omega) (fun b hb => hf b (fun q => ?_)) ⟨fa, fb, fc, f, g, k, ?_, w0, ?_, ?_, e1, e2, e3⟩
  · have hb : ∀ k, 93 ≤ k → k < 99 → b ≠ bd k := hb
    simp only [List.mem_cons, List.not_mem_nil, or_false] at q
    rcases q with q | q | q
    · exact hb 96 (by omega) (by omega) q
    · exact hb 97 (by omega) (by omega) q
    · exact hb 98 (by omega) (by omega) q
  · rw [hf _ (by simp [hI.ne (show 93 < 99 by omega) (show 96 < 99 by omega) (by omega), hI.ne (show 93 < 99 by omega) (show 97 < 99 by omega) (by omega), hI.ne (show 93 < 99 by omega) (show 98 < 99 by omega) (by omega)])]; exact w1
  · rw [hf _ (by simp [hI.ne (show 94 < 99 by omega) (show 96 < 99 by omega) (by omega), hI.ne (show 94 < 99 by omega) (show 97 < 99 by omega) (by omega), hI.ne (show 94 < 99 by omega) (show 98 < 99 by omega) (by omega)])]; exact w2
  · rw [hf _ (by simp [hI.ne (show 95 < 99 by omega) (show 96 < 99 by omega) (by omega), hI.ne (show 95 < 99 by omega) (show 97 < 99 by omega) (by omega), hI.ne (show 95 < 99 by omega) (show 98 < 99 by omega) (by omega)])]; exact w3
theorem mh_r_two (hR : mh_RI h bd σ F) {p q : Nat} (hp : p < 8) (hq : q < 8) (hpq : p ≠ q) {C N D M : List Nat} {h2 : mh_H} {g g' : Nat → Int32} (hg0 : h (bd 1) = some (.inl (0, 304, .inl g))) (hg : h2 (bd 1) = some (.inl (0, 304, .inl g'))) (hf : mh_fr [bd 1] h h2) (hz : mh_pz C N) (hy : mh_pz D M) (P1 : mh_Pv g' (104 + 25 * p) C N) (P2 : mh_Pv g' (104 + 25 * q) D M) (q2 : ∀ j, j < 304 → (j < 104 + 25 * p ∨ 104 + 25 * p + 25 ≤ j) → (j < 104 + 25 * q ∨ 104 + 25 * q + 25 ≤ j) → g' j = g j) : ∃ h' F', f_X12_changed_e (bd 0) h2 = some h' ∧ mh_RI h' bd (mh_setp (mh_setp (mh_bg σ) (mh_nx σ * 8 + p) C N) (mh_nx σ * 8 + q) D M) F' ∧ (∀ j, j ≠ 3 → j ≠ 4 → j ≠ 5 → F' j = F j) ∧ mh_frR bd h h' := by
  obtain ⟨g1, hg1, hw⟩ := hR.2 1 (by omega)
  obtain rfl : g = g1 := by
    rw [hg0] at hg1
    injection hg1 with e
    injection e with e
    injection e with _ e
    injection e with _ e
    injection e
  have lC := hz.1.1.1
  have hw1 := hw.purse (g' := fun j => if 104 + 25 * p ≤ j ∧ j < 104 + 25 * p + 25 then g' j else g j) hp hz (by
    show (if _ then _ else _) = _
    rw [if_pos (by omega)]; exact P1.1) (fun i hi => by
    show (if _ then _ else _) = _ ∧ (if _ then _ else _) = _
    rw [if_pos (by omega), if_pos (by omega)]; exact P1.2 i hi) (fun j _ hj => if_neg (by omega))
  have hw2 := hw1.purse (g' := g') hq hy P2.1 P2.2 (fun j h1 h2 => by
    show _ = (if _ then _ else _)
    by_cases e : 104 + 25 * p ≤ j ∧ j < 104 + 25 * p + 25
    · rw [if_pos e]
    · rw [if_neg e]
      exact q2 j h1 (by omega) h2)
  have hRM := hR.rm hg hf hw2
  obtain ⟨h', F', y1, y2, y3, y4⟩ := mh_r_changed hRM (σ' := mh_setp (mh_setp (mh_bg σ) (mh_nx σ * 8 + p) C N) (mh_nx σ * 8 + q) D M) rfl rfl (fun r hr => ⟨mh_cp_at hr, mh_fs2_at hr, mh_fs2_at hr⟩) (fun j hj hn r hr => ⟨mh_cp_off hr hn, mh_fs2_off hp hq hr hn, mh_fs2_off hp hq hr hn⟩)
  exact ⟨h', F', y1, y2, y3, fun b hb => (y4 b hb).trans (hf b (by simp [hb 1 (by omega)]))⟩
theorem mh_r_acts (hR : mh_RI h bd σ F) (F0 : F 0 = 0) {p q s V : Nat} (hp : p < 8) (hq : q < 8) (hpq : p ≠ q) {ks ms : List Nat} (hc : mh_cg (mh_pc σ p) (mh_pn σ p) (mh_pc σ q) (mh_pn σ q) s ks ms) {fo fi : Nat → Int32} (h96 : h (bd 96) = some (.inl (0, 12, .inl fo))) (h97 : h (bd 97) = some (.inl (0, 12, .inl fi))) (ko : ∀ i, i < (mh_pc σ p).length → fo i = nI (ks.getD i 0)) (ki : ∀ i, i < (mh_pc σ q).length → fi i = nI (ms.getD i 0)) : ∃ r v' h' σ' F', f_X12_deal_b287 (bd 0) (nI p) (nI q) (nI s) (nI V) (nI (104 + 25 * p)) (nI (104 + 25 * q)) h = some (v', h') ∧ ((∃ c1 n1 c2 n2, mh_dl (mh_pc σ p) (mh_pn σ p) (mh_pc σ q) (mh_pn σ q) ks ms = some ((c1, n1), (c2, n2)) ∧ r = .inr (nI V) ∧ σ' = mh_setp (mh_setp (mh_bg σ) (mh_nx σ * 8 + p) c1 n1) (mh_nx σ * 8 + q) c2 n2) ∨ (mh_dl (mh_pc σ p) (mh_pn σ p) (mh_pc σ q) (mh_pn σ q) ks ms = none ∧ r = .inr (-2) ∧ σ' = σ)) ∧ mh_an (α := Int32) r v' F' ∧ mh_RI h' bd σ' F' ∧ mh_frR bd h h' := by
  obtain ⟨g, hg, hw⟩ := hR.2 1 (by omega)
  obtain ⟨_, z1, _, _, u5, u6⟩ := hw p hp
  obtain ⟨_, z2, _, _, v5, v6⟩ := hw q hq
  have ho := hR.ob
  have hI := hR.1
  have z1 : mh_pz (mh_pc σ p) (mh_pn σ p) := z1
  have z2 : mh_pz (mh_pc σ q) (mh_pn σ q) := z2
  have P1 : mh_Pv g (104 + 25 * p) (mh_pc σ p) (mh_pn σ p) := ⟨u5, u6⟩
  have P2 : mh_Pv g (104 + 25 * q) (mh_pc σ q) (mh_pn σ q) := ⟨v5, v6⟩
  obtain ⟨c1, ec1⟩ : ∃ c, c = mh_pc σ p := ⟨_, rfl⟩
  obtain ⟨n1, en1⟩ : ∃ c, c = mh_pn σ p := ⟨_, rfl⟩
  obtain ⟨c2, ec2⟩ : ∃ c, c = mh_pc σ q := ⟨_, rfl⟩
  obtain ⟨n2, en2⟩ : ∃ c, c = mh_pn σ q := ⟨_, rfl⟩
  rw [← ec1, ← en1] at z1 P1
  rw [← ec2, ← en2] at z2 P2
  rw [← ec1, ← en1, ← ec2, ← en2] at hc ⊢
  rw [← ec1] at ko
  rw [← ec2] at ki
  have kl := hc.1.1.1
  have ml := hc.2.1.1.1
  have l1 := z1.1.1.1
  have l2 := z2.1.1.1
  have m20 := mh_Sv_g z2.2.2.1 hc.2.1.1
  have k20 := mh_Sv_g z1.2.2.1 hc.1.1
  have kn := hc.1.1.2
  have mn := hc.2.1.1.2
  have sb : s ≤ 20000 := by
    have d1 := mh_Sv_dot z1.2.1 c1.length ks (Nat.le_refl _) hc.1.1
    rw [List.take_length, ← z1.2.1, List.take_length] at d1
    have d2 := hc.1.2
    have d3 := z1.2.2.2
    omega
  obtain ⟨o1, o2, o3⟩ := mh_own z1.1 z1.2.1 kl
  obtain ⟨o4, o5, o6⟩ := mh_own z2.1 z2.2.1 ml
  obtain ⟨D1, D2⟩ := mh_deal_m z1 z2 hc
  have bad : mh_dl c1 n1 c2 n2 ks ms = none → ∃ r v' h' σ' F', f_X12_deal_b334 h = some (v', h') ∧ ((∃ c1' n1' c2' n2', mh_dl c1 n1 c2 n2 ks ms = some ((c1', n1'), (c2', n2')) ∧ r = .inr (nI V) ∧ σ' = mh_setp (mh_setp (mh_bg σ) (mh_nx σ * 8 + p) c1' n1') (mh_nx σ * 8 + q) c2' n2') ∨ (mh_dl c1 n1 c2 n2 ks ms = none ∧ r = .inr (-2) ∧ σ' = σ)) ∧ mh_an (α := Int32) r v' F' ∧ mh_RI h' bd σ' F' ∧ mh_frR bd h h' := fun e => ⟨.inr (-2), -2, h, σ, F, rfl, Or.inr ⟨e, rfl, rfl⟩, Or.inl ⟨rfl, F0⟩, hR, mh_frR.rfl⟩
  unfold f_X12_deal_b287
  rw [mh_gR_eq (k := 36) ho rfl, Option.bind_some, mh_gR_eq (k := 35) ho rfl, Option.bind_some, mh_cal_eq ho]
  rcases mh_r_fits (x := 97) (y := 96) (mT := mh_sbs c1 ks c1 n1) hp hq ho hg P1 P2 z1.1 z2.1 h97 ki h96 ko ml m20 z1.2.2.1 kn o3 with ⟨a1, a2⟩ | ⟨a1, a2⟩
  · rw [mh_b2_eq a2, if_neg (by decide), mh_gR_eq (k := 35) ho rfl, Option.bind_some, mh_gR_eq (k := 36) ho rfl, Option.bind_some, mh_cal_eq ho]
    rcases mh_r_fits (x := 96) (y := 97) (mT := mh_sbs c2 ms c2 n2) hq hp ho hg P2 P1 z2.1 z1.1 h96 ko h97 ki kl k20 z2.2.2.1 mn o6 with ⟨b1, b2⟩ | ⟨b1, b2⟩
    · rw [mh_b2_eq b2, if_neg (by decide), mh_cal_eq ho, mh_b2_eq (mh_r_allOf hq ho hg z2 P2.1 P2.2), nI_add]
      have d3 := z2.2.2.2
      by_cases t : mh_dot c2 n2 + s ≤ 20000
      · obtain ⟨D3, D4, D5⟩ := D2 a1 b1 t
        rw [if_pos (show nI (mh_dot c2 n2 + s) ≤ (20000 : Int32) from (nI_leI (by omega) (show 20000 < 2 ^ 31 by omega)).mpr t), mh_gR_eq (k := 37) ho rfl, Option.bind_some, mh_nm_eq]
        obtain ⟨fa, fb, fc, fd, fe, ff, w1, w0, w2, w3, w4, w5, w6⟩ := hR.2 10 (by omega)
        obtain ⟨h3, f3, y1, y2, y3, y4⟩ := mh_r_mid (x4 := nI V) (a := 104 + 25 * p) (b := 104 + 25 * q) hI (by omega) (by omega) 25 0 mh_fu h ff (by omega) (mh_fuel _ (by omega)) ho hg w6 (fun t ht => absurd ht (Nat.not_lt_zero _))
        have y1 : f_X12_deal_b346 mh_fu (bd 0) (nI V) (nI (104 + 25 * p)) (nI (104 + 25 * q)) (bd 98) 0 h = _ := y1
        have t3 : ∀ {k : Nat}, k < 98 → h3 (bd k) = h (bd k) := fun {k} hk => y2 _ (by simp [hI.ne (show k < 99 by omega) (show 98 < 99 by omega) (show k ≠ 98 by omega)])
        have g0 : f3 0 = nI c1.length := by rw [(y4 0 (by omega)).1]; exact P1.1
        have g1 : ∀ i, i < c1.length → f3 (1 + i) = nI (c1.getD i 0) := fun i hi => by rw [(y4 (1 + i) (by omega)).1, ← Nat.add_assoc]; exact (P1.2 i hi).1
        have g25 : f3 25 = nI c2.length := by rw [show (25 : Nat) = 25 + 0 from rfl, (y4 0 (by omega)).2]; exact P2.1
        have g26 : ∀ i, i < c2.length → f3 (26 + i) = nI (c2.getD i 0) := fun i hi => by rw [show 26 + i = 25 + (1 + i) by omega, (y4 (1 + i) (by omega)).2, ← Nat.add_assoc]; exact (P2.2 i hi).1
        obtain ⟨R3, f3'⟩ := hR.ten (h' := h3) (y2.sub (fun x hx => by simp only [List.mem_cons, List.not_mem_nil, or_false] at hx ⊢; exact Or.inr (Or.inr hx))) (by rw [t3 (by omega)]; exact h96) (by rw [t3 (by omega)]; exact h97) y3
        have hg3 : h3 (bd 1) = some (.inl (0, 304, .inl g)) := by rw [t3 (by omega)]; exact hg
        obtain ⟨h4, g4, x1, x2, x3, x4, x6⟩ := mh_r_subA (x4 := nI V) (x6 := nI (104 + 25 * q)) (F := F) (n := n1) hI (show 104 + 25 * p + 25 ≤ 304 by omega) l1 z1.2.2.1 kn g0 ko c1.length 0 mh_fu h3 g (by omega) (mh_fuel _ (by omega)) R3.ob hg3 y3 (by rw [t3 (by omega)]; exact h96) (fun t _ ht => (P1.2 t ht).2)
        have x1 : f_X12_deal_b395 mh_fu (bd 0) (nI V) (nI (104 + 25 * p)) (nI (104 + 25 * q)) (bd 98) 0 h3 = _ := x1
        have t4 : ∀ {k : Nat}, k < 99 → k ≠ 1 → h4 (bd k) = h3 (bd k) := fun hk hn => x2 _ (by simp [hI.ne hk (show 1 < 99 by omega) hn])
        obtain ⟨h5, g5, r1, r2, r3, r4, r5⟩ := mh_r_subB (x4 := nI V) (x5 := nI (104 + 25 * p)) (F := F) (n := n2) hI (show 104 + 25 * q + 25 ≤ 304 by omega) l2 z2.2.2.1 mn g25 ki c2.length 0 mh_fu h4 g4 (by omega) (mh_fuel _ (by omega)) (by rw [t4 (by omega) (by omega)]; exact R3.ob) x3 (by rw [t4 (by omega) (by omega)]; exact y3) (by rw [t4 (by omega) (by omega), t3 (by omega)]; exact h97) (fun t _ ht => by rw [x6 _ (by omega)]; exact (P2.2 t ht).2)
        have r1 : f_X12_deal_b436 mh_fu (bd 0) (nI V) (nI (104 + 25 * p)) (nI (104 + 25 * q)) (bd 98) 0 h4 = _ := r1
        have t5 : ∀ {k : Nat}, k < 99 → k ≠ 1 → h5 (bd k) = h3 (bd k) := fun hk hn => (r2 _ (by simp [hI.ne hk (show 1 < 99 by omega) hn])).trans (t4 hk hn)
        have PB : mh_Pv g5 (104 + 25 * q) c2 (mh_sbs c2 ms c2 n2) := ⟨by rw [r5 _ (by omega), x6 _ (by omega)]; exact P2.1, fun i hi => ⟨by rw [r5 _ (by omega), x6 _ (by omega)]; exact (P2.2 i hi).1, by rw [r4 i (Nat.zero_le _) hi, o6 i hi]⟩⟩
        have PA : mh_Pv g5 (104 + 25 * p) c1 (mh_sbs c1 ks c1 n1) := ⟨by rw [r5 _ (by omega), x6 _ (by omega)]; exact P1.1, fun i hi => ⟨by rw [r5 _ (by omega), x6 _ (by omega)]; exact (P1.2 i hi).1, by rw [r5 _ (by omega), x4 i (Nat.zero_le _) hi, o3 i hi]⟩⟩
        obtain ⟨h6, g6, a3, a4, a5, a6, a7⟩ := mh_r_getA (x4 := nI V) (x5 := nI (104 + 25 * p)) (F := F) hI (show 104 + 25 * q + 25 ≤ 304 by omega) z1.1 kl k20 g0 g1 ko c1.length 0 mh_fu h5 g5 (c2, mh_sbs c2 ms c2 n2) (by omega) (mh_fuel _ (by omega)) (by rw [t5 (by omega) (by omega)]; exact R3.ob) r3 (by rw [t5 (by omega) (by omega)]; exact y3) (by rw [t5 (by omega) (by omega), t3 (by omega)]; exact h96) PB z2.1 o4 b1.2
        have a3 : f_X12_deal_b478 mh_fu (bd 0) (nI V) (nI (104 + 25 * p)) (nI (104 + 25 * q)) (bd 98) 0 h5 = _ := a3
        have a6 : mh_Pv g6 (104 + 25 * q) (mh_gs c1 ks (c2, mh_sbs c2 ms c2 n2)).1 (mh_gs c1 ks (c2, mh_sbs c2 ms c2 n2)).2 := a6
        have t6 : ∀ {k : Nat}, k < 99 → k ≠ 1 → h6 (bd k) = h3 (bd k) := fun hk hn => (a4 _ (by simp [hI.ne hk (show 1 < 99 by omega) hn])).trans (t5 hk hn)
        have PA6 : mh_Pv g6 (104 + 25 * p) c1 (mh_sbs c1 ks c1 n1) := ⟨by rw [a7 _ (by omega) (by omega)]; exact PA.1, fun i hi => ⟨by rw [a7 _ (by omega) (by omega)]; exact (PA.2 i hi).1, by rw [a7 _ (by omega) (by omega)]; exact (PA.2 i hi).2⟩⟩
        obtain ⟨h7, g7, b3, b4, b5, b6, b7⟩ := mh_r_getB (x4 := nI V) (F := F) hI (show 104 + 25 * p + 25 ≤ 304 by omega) z2.1 ml m20 g25 g26 ki c2.length 0 mh_fu h6 g6 (c1, mh_sbs c1 ks c1 n1) (by omega) (mh_fuel _ (by omega)) (by rw [t6 (by omega) (by omega)]; exact R3.ob) a5 (by rw [t6 (by omega) (by omega)]; exact y3) (by rw [t6 (by omega) (by omega), t3 (by omega)]; exact h97) PA6 z1.1 o1 a1.2
        have b3 : f_X12_deal_b516 mh_fu (bd 0) (nI V) (nI (104 + 25 * p)) (bd 98) 0 h6 = _ := b3
        have b6 : mh_Pv g7 (104 + 25 * p) (mh_gs c2 ms (c1, mh_sbs c1 ks c1 n1)).1 (mh_gs c2 ms (c1, mh_sbs c1 ks c1 n1)).2 := b6
        have lK := D5.1.1.1
        have a8 : mh_Pv g7 (104 + 25 * q) (mh_gs c1 ks (c2, mh_sbs c2 ms c2 n2)).1 (mh_gs c1 ks (c2, mh_sbs c2 ms c2 n2)).2 := ⟨by rw [b7 _ (by omega) (by omega)]; exact a6.1, fun i hi => ⟨by rw [b7 _ (by omega) (by omega)]; exact (a6.2 i hi).1, by rw [b7 _ (by omega) (by omega)]; exact (a6.2 i hi).2⟩⟩
        obtain ⟨h8, F8, q1, q2, q3, q4⟩ := mh_r_two R3 hp hq hpq hg3 b5 (x2.trans (r2.trans (a4.trans b4))) D4 D5 b6 a8 (fun j j1 j2 j3 => by rw [b7 j j1 j2, a7 j j1 j3, r5 j (by omega), x6 j (by omega)])
        have o7 : h7 (bd 0) = some (.inr (12, mh_rf bd F)) := (b4 _ (by simp [hI.ne (show 0 < 99 by omega) (show 1 < 99 by omega) (by omega)])).trans ((t6 (by omega) (by omega)).trans R3.ob)
        rw [y1]
        unfold f_X12_deal_b392
        rw [mh_nm_eq, x1]
        unfold f_X12_deal_b433
        rw [mh_nm_eq, r1]
        unfold f_X12_deal_b475
        rw [mh_nm_eq, a3]
        unfold f_X12_deal_b513
        rw [mh_nm_eq, b3]
        unfold f_X12_deal_b553
        rw [mh_cal_eq o7, q1, Option.bind_some]
        exact ⟨.inr (nI V), nI V, h8, _, F8, rfl, Or.inl ⟨_, _, _, _, D3, rfl, rfl⟩, Or.inl ⟨rfl, by rw [q3 0 (by omega) (by omega) (by omega)]; exact F0⟩, q2, f3'.trans q4⟩
      · rw [if_neg (show ¬ nI (mh_dot c2 n2 + s) ≤ (20000 : Int32) from fun z => t ((nI_leI (by omega) (show 20000 < 2 ^ 31 by omega)).mp z))]
        exact bad (D1 (Or.inr (Or.inr (by omega))))
    · rw [mh_b2_eq b2, if_pos rfl]
      exact bad (D1 (Or.inr (Or.inl b1)))
  · rw [mh_b2_eq a2, if_pos rfl]
    exact bad (D1 (Or.inl a1))
theorem mh_M_deal (hR : mh_RI h bd σ F) (x1 x2 x3 : Int32) : ∃ r v h' σ' F', f_X12_deal_e (bd 0) x1 x2 x3 h = some (v, h') ∧ mh_Sdeal σ x1 x2 x3 r σ' ∧ mh_an r v F' ∧ mh_RI h' bd σ' F' ∧ mh_frR bd h h' := by
  obtain ⟨h1, F1, p1, R1, z1, f1⟩ := mh_r_code hR
  obtain ⟨r, v, h2, F2, e1, e2, e3, R2, f2⟩ := mh_r_change R1 x1 x2 x3
  unfold f_X12_deal_e
  rw [p1, Option.bind_some, mh_cal_eq R1.ob, mh_b2_eq e1, mh_gI_eq (k := 0) R2.ob rfl, Option.bind_some]
  have no : ∀ e, (e = 1 ∨ e = 2) → r = .inl e → F2 0 = nI e := fun e _ he => by
    rcases e3 with ⟨t, _⟩ | ⟨e', t, t2⟩
    · rw [he] at t; exact absurd t (by simp)
    · rw [he] at t
      injection t with t
      rw [t]; exact t2
  have yes : ∀ w, r = .inr w → v = w ∧ F2 0 = 0 := fun w he => by
    rcases e3 with ⟨t, t2⟩ | ⟨e', t, t2⟩
    · rw [he] at t
      injection t with t
      exact ⟨t.symm, t2⟩
    · rw [he] at t; exact absurd t (by simp)
  rcases e2 with ⟨p, q, hp, hq, ep, eq, e2⟩ | ⟨e2, e4⟩
  · rcases e2 with ⟨s, hs, es, hpq, e2⟩ | ⟨e2, e4⟩
    · rcases e2 with ⟨ks, ms, hc, er, T1, T2, hL⟩ | ⟨hn, er⟩
      · obtain ⟨ev, F0⟩ := yes _ er
        subst ep eq es
        obtain ⟨g, hg, hw⟩ := R2.2 1 (by omega)
        obtain ⟨_, zz1, _, _, u5, u6⟩ := hw p hp
        obtain ⟨_, zz2, _, _, v5, v6⟩ := hw q hq
        have hI := R2.1
        obtain ⟨V, eV⟩ : ∃ V, V = ks.sum + ms.sum := ⟨_, rfl⟩
        rw [← eV] at hL ev
        have zz1 : mh_pz (mh_pc σ p) (mh_pn σ p) := zz1
        have zz2 : mh_pz (mh_pc σ q) (mh_pn σ q) := zz2
        have u5 : g (104 + 25 * p) = nI (mh_pc σ p).length := u5
        have v5 : g (104 + 25 * q) = nI (mh_pc σ q).length := v5
        have u6 : ∀ i, i < (mh_pc σ p).length → g (104 + 25 * p + 1 + i) = nI ((mh_pc σ p).getD i 0) ∧ g (104 + 25 * p + 13 + i) = nI ((mh_pn σ p).getD i 0) := u6
        have v6 : ∀ i, i < (mh_pc σ q).length → g (104 + 25 * q + 1 + i) = nI ((mh_pc σ q).getD i 0) ∧ g (104 + 25 * q + 13 + i) = nI ((mh_pn σ q).getD i 0) := v6
        have fin : ∀ {r : Nat ⊕ Int32} {σ' : mh_Sg}, ((∃ c1 n1 c2 n2, mh_dl (mh_pc σ p) (mh_pn σ p) (mh_pc σ q) (mh_pn σ q) ks ms = some ((c1, n1), (c2, n2)) ∧ r = .inr (nI V) ∧ σ' = mh_setp (mh_setp (mh_bg σ) (mh_nx σ * 8 + p) c1 n1) (mh_nx σ * 8 + q) c2 n2) ∨ (mh_dl (mh_pc σ p) (mh_pn σ p) (mh_pc σ q) (mh_pn σ q) ks ms = none ∧ r = .inr (-2) ∧ σ' = σ)) → mh_Sdeal σ (nI p) (nI q) (nI s) r σ' := fun hy => Or.inl ⟨p, q, hp, hq, rfl, rfl, Or.inl ⟨s, hs, rfl, hpq, Or.inl ⟨ks, ms, hc, by rw [eV] at hy; exact hy⟩⟩⟩
        have act := fun (hh : mh_H) (hRR : mh_RI hh bd σ F2) (fo fi : Nat → Int32) a b c d => mh_r_acts (h := hh) (V := V) hRR F0 hp hq hpq hc (fo := fo) (fi := fi) a b c d
        obtain ⟨c1, ec1⟩ : ∃ c, c = mh_pc σ p := ⟨_, rfl⟩
        obtain ⟨n1, en1⟩ : ∃ c, c = mh_pn σ p := ⟨_, rfl⟩
        obtain ⟨c2, ec2⟩ : ∃ c, c = mh_pc σ q := ⟨_, rfl⟩
        obtain ⟨n2, en2⟩ : ∃ c, c = mh_pn σ q := ⟨_, rfl⟩
        rw [← ec1, ← en1] at zz1 T1 u6
        rw [← ec2, ← en2] at zz2 T2 v6
        rw [← ec1] at u5
        rw [← ec2] at v5
        rw [← ec1, ← en1, ← ec2, ← en2] at hc hL act fin
        have Vb : V ≤ 480 := by
          have b1 := mh_vj_sum zz1 (Nat.le_refl _) (mh_vj_vp.mpr hc.1)
          have b2 := mh_vj_sum zz2 (Nat.le_refl _) (mh_vj_vp.mpr hc.2.1)
          omega
        rcases hL with ⟨hL, _⟩ | ⟨_, ⟨k0, m0, l1, l2⟩, l3⟩
        · omega
        have D2 : mh_Dc h2 bd F2 p q c1 n1 c2 n2 := ⟨⟨hp, hq⟩, R2.ob, ⟨g, hg, ⟨u5, u6⟩, v5, v6⟩, zz1, zz2, T1, T2⟩
        obtain ⟨fa, fb, fc, fd, fe, ff, w1, w0, w2, w3, w4, w5, w6⟩ := R2.2 10 (by omega)
        have dz : mh_dot (c1.drop c1.length) [] = 0 := by rw [List.drop_length]; rfl
        have C0 : mh_Ch c1 n1 c2 n2 s V c1.length [] := ⟨rfl, fun i hi => absurd hi (Nat.not_lt_zero _), ⟨k0, m0, by rw [dz]; exact l1, l2⟩, fun a b ha _ => by
          rw [List.drop_eq_nil_of_le (by have := ha.1.1; omega)]
          exact Nat.le_refl _⟩
        obtain ⟨h3, fo, ko, y1, y2, y3, y4, y5⟩ := mh_r_out hI D2 hs Vb l3 c1.length mh_fu h2 [] fd (mh_fuel _ (by have := zz1.1.1.1; omega)) C0 mh_fr.rfl w4 (fun i hi => absurd hi (Nat.not_lt_zero _))
        have y1 : f_X12_deal_b57 mh_fu (bd 0) (nI p) (nI q) (nI s) (nI V) (nI (104 + 25 * p)) (nI (104 + 25 * q)) 0 0 (nI c1.length) h2 = f_X12_deal_b159 (bd 0) (nI p) (nI q) (nI s) (nI V) (nI (104 + 25 * p)) (nI (104 + 25 * q)) (nI (mh_dot c1 ko)) (nI ko.sum) h3 := by rw [dz] at y1; exact y1
        have nv : ¬ v = (-1 : Int32) := fun z => by
          have := nI_pos (n := V) (by omega)
          rw [← ev, z] at this
          exact this (by decide)
        rw [if_pos F0, if_neg nv, mh_b2_eq mh_r_purseAt, mh_b2_eq mh_r_purseAt, mh_nm_eq, mh_nm_eq, mh_gR_eq (k := 1) R2.ob rfl, Option.bind_some, mh_aI_eq hg (show 104 + 25 * p < 304 by omega) (by omega), Option.bind_some, u5, ev, y1]
        obtain ⟨q1, q2, ⟨ka, mb, q3, q4⟩, q5⟩ := y2
        have ka0 : ka = [] := List.eq_nil_of_length_eq_zero q3.1.1
        subst ka0
        have q6 : mh_dot c1 ko = s + mh_dot c2 mb := by
          have := q3.2.2
          have t : mh_dot (c1.take 0) [] = 0 := rfl
          rw [t, Nat.zero_add] at this
          exact this
        have q4 : mb.sum + ko.sum = V := by
          have t : ([] : List Nat).sum = 0 := rfl
          rw [t, Nat.zero_add] at q4
          exact q4
        have hmb : mh_vp c2 n2 (mh_dot c2 mb) mb := q3.2.1
        have svk : mh_Sv n1 c1.length ko := ⟨by omega, fun i hi => by have := q2 i (by omega); rwa [Nat.zero_add] at this⟩
        have kd : mh_dot c1 ko ≤ 20000 := by
          have d1 := mh_Sv_dot zz1.2.1 c1.length ko (Nat.le_refl _) svk
          rw [List.take_length, ← zz1.2.1, List.take_length] at d1
          have d3 := zz1.2.2.2
          omega
        have t3 : ∀ {k : Nat}, k < 99 → k ≠ 96 → h3 (bd k) = h2 (bd k) := fun hk hn => y3 _ (by simp [hI.ne hk (show 96 < 99 by omega) hn])
        have D3 : mh_Dc h3 bd F2 p q c1 n1 c2 n2 := D2.keep hI (y3.sub (fun x hx => by simp only [List.mem_cons, List.not_mem_nil, or_false] at hx ⊢; exact Or.inl hx))
        have mbs := mh_vj_sum zz2 (Nat.le_refl _) (mh_vj_vp.mpr hmb)
        have wv : mh_Wv c2 n2 c2.length (mh_dot c2 mb) = mb.sum := by
          rcases mh_Wv_all zz2 (mh_dot c2 mb) with ⟨_, t⟩ | ⟨l, t1, t2, t3⟩
          · exact absurd hmb (t mb)
          · have a1 := l3 ko l (mh_Cp_all.mpr ⟨⟨svk, by rw [t1.1.2]; exact q6⟩, by rw [t1.1.2]; exact t1.1⟩)
            have a2 := t1.2 mb hmb
            omega
        have dz2 : mh_dot (c2.drop c2.length) [] = 0 := by rw [List.drop_length]; rfl
        have B0 : mh_Cb c2 n2 (mh_dot c2 mb) mb.sum c2.length (mh_dot c2 mb) mb.sum [] := ⟨rfl, fun i hi => absurd hi (Nat.not_lt_zero _), ⟨mb, mh_vj_vp.mpr hmb, rfl⟩, wv, by rw [dz2]; rfl, rfl, fun a ha _ => by
          rw [List.drop_eq_nil_of_le (by have := ha.1.1; omega)]
          exact Nat.le_refl _⟩
        obtain ⟨h4, fi, mo, x1, x2, x3, x4, x5, x6, x7⟩ := mh_r_in (s := s) (v := V) hI D3 (show mh_dot c2 mb ≤ 20000 by omega) mbs c2.length mh_fu (mh_dot c2 mb) mb.sum h3 [] fe (mh_fuel _ (by have := zz2.1.1.1; omega)) B0 mh_fr.rfl (by rw [t3 (by omega) (by omega)]; exact w5) (fun i hi => absurd hi (Nat.not_lt_zero _))
        have md : mh_dot c2 mo = mh_dot c2 mb := x2.2
        have cg : mh_cg c1 n1 c2 n2 s ko mo := ⟨⟨svk, by rw [md]; exact q6⟩, by rw [md]; exact x2, fun ka ma ha hm => by
          have a1 := l3 ka ma (mh_Cp_all.mpr ⟨ha, hm⟩)
          by_cases t : ka.sum + ma.sum = V
          · have a2 := q5 ka ma (mh_Cp_all.mpr ⟨ha, hm⟩) t
            rw [List.drop_zero] at a2
            by_cases a3 : mh_dg ka = mh_dg ko
            · have a4 := mh_dg_inj _ _ (by rw [ha.1.1, svk.1]) (mh_Sv_20 zz1.2.2.1 ha.1) (mh_Sv_20 zz1.2.2.1 svk) a3
              have a5 : mh_dot c2 ma = mh_dot c2 mb := by
                have := ha.2
                rw [a4] at this
                omega
              rw [a5] at hm
              rw [a4] at t
              have a6 := x4 ma hm (by omega)
              exact Or.inr ⟨by rw [a4]; omega, Or.inr ⟨a3, a6⟩⟩
            · exact Or.inr ⟨by omega, Or.inl (by omega)⟩
          · exact Or.inl (by omega)⟩
        obtain ⟨ek, em⟩ := mh_cg_u zz1 zz2 cg hc
        subst ek em
        have t4 : ∀ {k : Nat}, k < 99 → k ≠ 97 → h4 (bd k) = h3 (bd k) := fun hk hn => x5 _ (by simp [hI.ne hk (show 97 < 99 by omega) hn])
        have b96 : h4 (bd 96) = some (.inl (0, 12, .inl fo)) := by rw [t4 (by omega) (by omega)]; exact y4
        obtain ⟨R4, f4⟩ := R2.ten (h' := h4) ((y3.sub (T := [bd 96, bd 97, bd 98]) (fun x hx => by simp only [List.mem_cons, List.not_mem_nil, or_false] at hx ⊢; exact Or.inl hx)).trans (x5.sub (fun x hx => by simp only [List.mem_cons, List.not_mem_nil, or_false] at hx ⊢; exact Or.inr (Or.inl hx)))) b96 x6 (by rw [t4 (by omega) (by omega), t3 (by omega) (by omega)]; exact w6)
        obtain ⟨r, v', h5, σ', F', i1, i2, i3, i4, i5⟩ := act h4 R4 fo fi b96 x6 y5 x7
        refine ⟨r, v', h5, σ', F', ?_, fin i2, i3, i4, f1.trans (f2.trans (f4.trans i5))⟩
        have ho3 : h3 (bd 0) = some (.inr (12, mh_rf bd F2)) := by rw [t3 (by omega) (by omega)]; exact R2.ob
        have hg3 : h3 (bd 1) = some (.inl (0, 304, .inl g)) := by rw [t3 (by omega) (by omega)]; exact hg
        unfold f_X12_deal_b159
        rw [mh_nm_eq, mh_nm_eq, mh_gR_eq (k := 1) ho3 rfl, Option.bind_some, mh_aI_eq hg3 (show 104 + 25 * q < 304 by omega) (by omega), Option.bind_some, v5, pk_sub (by omega), pk_sub (by omega), show mh_dot c1 ko - s = mh_dot c2 mb by omega, show V - ko.sum = mb.sum by omega, x1]
        exact i1
      · obtain ⟨ev, F0⟩ := yes _ er
        rw [if_pos F0, if_pos ev]
        exact ⟨_, v, h2, σ, F2, rfl, Or.inl ⟨p, q, hp, hq, ep, eq, Or.inl ⟨s, hs, es, hpq, Or.inr ⟨hn, rfl, rfl⟩⟩⟩, Or.inl ⟨by rw [ev], F0⟩, R2, f1.trans f2⟩
    · have t := no 2 (Or.inr rfl) e4
      rw [if_neg (by rw [t]; decide)]
      exact ⟨_, v, h2, σ, F2, rfl, Or.inl ⟨p, q, hp, hq, ep, eq, Or.inr ⟨e2, rfl, rfl⟩⟩, Or.inr ⟨2, rfl, t⟩, R2, f1.trans f2⟩
  · have t := no 1 (Or.inl rfl) e4
    rw [if_neg (by rw [t]; decide)]
    exact ⟨_, v, h2, σ, F2, rfl, Or.inr ⟨e2, rfl, rfl⟩, Or.inr ⟨1, rfl, t⟩, R2, f1.trans f2⟩
end MhModelDealB
