section MhTurn
variable {h : mh_H} {ad bd : Nat → Nat} {o : Nat} {σ : mh_Sg} {F : Nat → Int32} {xs : Nat → Int32} {N i : Nat}
theorem mh_scr (hi : i + 5 ≤ N) (hN : N ≤ 2560) {j : Nat} (hj : j < 5) : mh_sc xs N (nI i + nI j) = some (xs (i + j)) := by
  unfold mh_sc
  rw [nI_add, nI_toInt (by omega), if_pos (by omega), nI_clamp (by omega)]
set_option maxRecDepth 10000 in
theorem mh_L_k0 (hL : mh_LI h ad bd o σ F) (hi : i + 5 ≤ N) (hN : N ≤ 2560) : ∃ h' σ' F', f_L_k0 xs N (ad 1289) (bd 0) o (nI i) h = some h' ∧ mh_LI h' ad bd o σ' F' := by
  have r1 : mh_sc xs N (nI i + (1 : Int32)) = some (xs (i + 1)) := mh_scr hi hN (j := 1) (by omega)
  have r2 : mh_sc xs N (nI i + (2 : Int32)) = some (xs (i + 2)) := mh_scr hi hN (j := 2) (by omega)
  have hG := hL.2.1.gd
  obtain ⟨hC, hR, dj, ⟨fl, ho⟩, d1, d2, h20⟩ := hL
  obtain ⟨r, h1, σ1, e1, s1, C1, f1⟩ := mh_K_coin hC (xs (i + 1)) (xs (i + 2))
  have hR1 : mh_RI h1 bd σ F := hR.hold (fun k hk => f1 _ (fun i hi => (dj i k hi hk).symm))
  obtain ⟨r2, h2, σ2, F2, b1, b2, b3, b4, b5⟩ := mh_M_coin hR1 (xs (i + 1)) (xs (i + 2))
  obtain ⟨u1, u2⟩ := mh_Scoin_u s1 b2
  subst u1 u2
  refine ⟨h2, σ1, F2, ?_, C1.hold (fun k hk => b5 _ (fun j hj => dj k j hk hj)), b4, dj, ⟨fl, (b5 _ (fun j hj => (d2 j hj).symm)).trans ((f1 _ (fun i hi => (d1 i hi).symm)).trans ho)⟩, d1, d2, mh_20_coin h20 s1⟩
  unfold f_L_k0
  simp only [r1, r2, Option.bind_some]
  rw [mh_cal_eq hC.ob, mh_b2_eq e1, mh_cal_eq hR1.ob, mh_b2_eq b1, if_pos rfl]
set_option maxRecDepth 10000 in
theorem mh_L_k1 (hL : mh_LI h ad bd o σ F) (hi : i + 5 ≤ N) (hN : N ≤ 2560) : ∃ h' σ' F', f_L_k1 xs N (ad 1289) (bd 0) o (nI i) h = some h' ∧ mh_LI h' ad bd o σ' F' := by
  have r1 : mh_sc xs N (nI i + (1 : Int32)) = some (xs (i + 1)) := mh_scr hi hN (j := 1) (by omega)
  have r2 : mh_sc xs N (nI i + (2 : Int32)) = some (xs (i + 2)) := mh_scr hi hN (j := 2) (by omega)
  have hG := hL.2.1.gd
  obtain ⟨hC, hR, dj, ⟨fl, ho⟩, d1, d2, h20⟩ := hL
  obtain ⟨r, h1, σ1, e1, s1, C1, f1⟩ := mh_K_melt hC (xs (i + 1)) (xs (i + 2))
  have hR1 : mh_RI h1 bd σ F := hR.hold (fun k hk => f1 _ (fun i hi => (dj i k hi hk).symm))
  obtain ⟨r2, h2, σ2, F2, b1, b2, b3, b4, b5⟩ := mh_M_melt hR1 (xs (i + 1)) (xs (i + 2))
  obtain ⟨u1, u2⟩ := mh_Smelt_u hG s1 b2
  subst u1 u2
  refine ⟨h2, σ1, F2, ?_, C1.hold (fun k hk => b5 _ (fun j hj => dj k j hk hj)), b4, dj, ⟨fl, (b5 _ (fun j hj => (d2 j hj).symm)).trans ((f1 _ (fun i hi => (d1 i hi).symm)).trans ho)⟩, d1, d2, mh_20_melt h20 s1⟩
  unfold f_L_k1
  simp only [r1, r2, Option.bind_some]
  rw [mh_cal_eq hC.ob, mh_b2_eq e1, mh_cal_eq hR1.ob, mh_b2_eq b1, if_pos rfl]
set_option maxRecDepth 10000 in
theorem mh_L_k2 (hL : mh_LI h ad bd o σ F) (hi : i + 5 ≤ N) (hN : N ≤ 2560) : ∃ h' σ' F', f_L_k2 xs N (ad 1289) (bd 0) o (nI i) h = some h' ∧ mh_LI h' ad bd o σ' F' := by
  have r1 : mh_sc xs N (nI i + (1 : Int32)) = some (xs (i + 1)) := mh_scr hi hN (j := 1) (by omega)
  have r2 : mh_sc xs N (nI i + (2 : Int32)) = some (xs (i + 2)) := mh_scr hi hN (j := 2) (by omega)
  have hG := hL.2.1.gd
  have h20 := hL.2.2.2.2.2.2
  have hK : ∃ r h1 σ1, f_X11_at_e (ad 1289) (xs (i + 1)) (xs (i + 2)) h = some (r, h1) ∧ (fun (r : Nat ⊕ Int32) (σ' : mh_Sg) => (mh_Qm σ (xs (i + 1)) (mh_Bat (xs (i + 2)))) r ∧ σ' = σ) r σ1 ∧ mh_CI h1 ad σ1 ∧ mh_frC ad h h1 := by
    obtain ⟨r, e1, e2⟩ := mh_K_at hL.1 (xs (i + 1)) (xs (i + 2))
    exact ⟨r, h, σ, e1, ⟨e2, rfl⟩, hL.1, mh_frC.rfl⟩
  have hM : ∀ h F, mh_RI h bd σ F → ∃ r v h' σ' F', (fun h => f_X12_at_e (bd 0) (xs (i + 1)) (xs (i + 2)) h) h = some (v, h') ∧ (fun (r : Nat ⊕ Int32) (σ' : mh_Sg) => (mh_Qm σ (xs (i + 1)) (mh_Bat (xs (i + 2)))) r ∧ σ' = σ) r σ' ∧ mh_an r v F' ∧ mh_RI h' bd σ' F' ∧ mh_frR bd h h' := fun h F hR => by
    obtain ⟨r, v, h1, F1, e1, e2, e3, e4, e5⟩ := mh_M_at hR (xs (i + 1)) (xs (i + 2))
    exact ⟨r, v, h1, σ, F1, e1, ⟨e2, rfl⟩, e3, e4, e5⟩
  have hu : ∀ (r r' : Nat ⊕ Int32) (σ1 σ2 : mh_Sg), (fun (r : Nat ⊕ Int32) (σ' : mh_Sg) => (mh_Qm σ (xs (i + 1)) (mh_Bat (xs (i + 2)))) r ∧ σ' = σ) r σ1 → (fun (r : Nat ⊕ Int32) (σ' : mh_Sg) => (mh_Qm σ (xs (i + 1)) (mh_Bat (xs (i + 2)))) r ∧ σ' = σ) r' σ2 → r = r' ∧ σ1 = σ2 := fun _ _ _ _ a b => ⟨mh_Qm_v (B := (mh_Bat (xs (i + 2)))) hG (fun _ _ _ m a b => mh_Bat_u m a b) a.1 b.1, a.2.trans b.2.symm⟩
  have hc : ∀ (e : Nat) (σ1 : mh_Sg), (fun (r : Nat ⊕ Int32) (σ' : mh_Sg) => (mh_Qm σ (xs (i + 1)) (mh_Bat (xs (i + 2)))) r ∧ σ' = σ) (.inl e) σ1 → (fun e => e = 1) e := fun e σ1 a => mh_Qm_c (P := (fun e => e = 1)) rfl (fun cs e q => by show e = 1; first | (simp [mh_Bat] at q; done) | (simp [mh_Bat] at q; omega) | (simp [mh_Bat] at q; grind)) a.1
  have h2 : ∀ (r : Nat ⊕ Int32) (σ1 : mh_Sg), (fun (r : Nat ⊕ Int32) (σ' : mh_Sg) => (mh_Qm σ (xs (i + 1)) (mh_Bat (xs (i + 2)))) r ∧ σ' = σ) r σ1 → mh_St20 σ1 := fun r σ1 a => by rw [a.2]; exact h20
  have hfx : ∀ (e : Nat) (h' : mh_H), (fun e => e = 1) e → (fun (k : Nat) (h2 : mh_H) => if k = 1 then (some ((1 : Int32), h2)) else none) e h' = some (nI e, h') := fun e h' q => by
    have q : e = 1 := q
    subst q
    exact if_pos rfl
  have hf : ∀ (v : Int32) (h' : mh_H) (fl : Nat → Int64), h' o = some (.inl (1, 1, .inr (.inl fl))) → (fun (v3 : Int32) (h1 : mh_H) => (mh_sJ h1 o (0 : Int32) ((v3).toInt64)).bind fun h4 => some ((0 : Int32), h4)) v h' = some (0, mh_up h' o (.inl (1, 1, .inr (.inl (vp_updL fl 0 ((fun v => v.toInt64) v)))))) := fun v h' fl ho => by
    have s0 : ∀ w, mh_sJ h' o (0 : Int32) w = some (mh_up h' o (.inl (1, 1, .inr (.inl (vp_updL fl 0 w))))) := fun w => mh_sJ_eq (j := 0) ho (by omega) (by omega)
    show (mh_sJ h' o (0 : Int32) _).bind _ = _
    rw [s0, Option.bind_some]
  obtain ⟨k, hb, v, hd, σ1, F1, fs2, fs3, e1, e2, e3, e4, e5, e6, e7⟩ := mh_step (P := (fun e => e = 1)) (g := (fun v => v.toInt64)) hL hK hM hu hc (fun _ q => Or.inl q) h2 hfx hf
  have e1 : f_L_at_e (ad 1289) (xs (i + 1)) (xs (i + 2)) o h = some (k, hb) := e1
  refine ⟨hd, σ1, F1, ?_, e7⟩
  unfold f_L_k2
  simp only [r1, r2, Option.bind_some]
  rw [mh_b2_eq e1, mh_cal_eq e2, mh_b2_eq e3, mh_cal_eq e4, mh_b2_eq e5]
  exact mh_tail e6
set_option maxRecDepth 10000 in
theorem mh_L_k3 (hL : mh_LI h ad bd o σ F) (hi : i + 5 ≤ N) (hN : N ≤ 2560) : ∃ h' σ' F', f_L_k3 xs N (ad 1289) (bd 0) o (nI i) h = some h' ∧ mh_LI h' ad bd o σ' F' := by
  obtain ⟨hC, hR, dj, ⟨fl, ho⟩, d1, d2, h20⟩ := hL
  obtain ⟨h1, e1, C1, f1⟩ := mh_K_undo hC h20
  have hR1 : mh_RI h1 bd σ F := hR.hold (fun k hk => f1 _ (fun i hi => (dj i k hi hk).symm))
  obtain ⟨h2, F2, b1, b3, b4, b5⟩ := mh_M_undo hR1 h20
  refine ⟨h2, (mh_Sundo σ).2, F2, ?_, C1.hold (fun k hk => b5 _ (fun j hj => dj k j hk hj)), b4, dj, ⟨fl, (b5 _ (fun j hj => (d2 j hj).symm)).trans ((f1 _ (fun i hi => (d1 i hi).symm)).trans ho)⟩, d1, d2, (mh_20_undo h20)⟩
  unfold f_L_k3
  rw [mh_cal_eq hC.ob, mh_b2_eq e1, mh_cal_eq hR1.ob, mh_b2_eq b1, if_pos rfl]
set_option maxRecDepth 10000 in
theorem mh_L_k4 (hL : mh_LI h ad bd o σ F) (hi : i + 5 ≤ N) (hN : N ≤ 2560) : ∃ h' σ' F', f_L_k4 xs N (ad 1289) (bd 0) o (nI i) h = some h' ∧ mh_LI h' ad bd o σ' F' := by
  obtain ⟨hC, hR, dj, ⟨fl, ho⟩, d1, d2, h20⟩ := hL
  obtain ⟨h1, e1, C1, f1⟩ := mh_K_redo hC h20
  have hR1 : mh_RI h1 bd σ F := hR.hold (fun k hk => f1 _ (fun i hi => (dj i k hi hk).symm))
  obtain ⟨h2, F2, b1, b3, b4, b5⟩ := mh_M_redo hR1 h20
  refine ⟨h2, (mh_Sredo σ).2, F2, ?_, C1.hold (fun k hk => b5 _ (fun j hj => dj k j hk hj)), b4, dj, ⟨fl, (b5 _ (fun j hj => (d2 j hj).symm)).trans ((f1 _ (fun i hi => (d1 i hi).symm)).trans ho)⟩, d1, d2, (mh_20_redo h20)⟩
  unfold f_L_k4
  rw [mh_cal_eq hC.ob, mh_b2_eq e1, mh_cal_eq hR1.ob, mh_b2_eq b1, if_pos rfl]
set_option maxRecDepth 10000 in
theorem mh_L_k5 (hL : mh_LI h ad bd o σ F) (hi : i + 5 ≤ N) (hN : N ≤ 2560) : ∃ h' σ' F', f_L_k5 xs N (ad 1289) (bd 0) o (nI i) h = some h' ∧ mh_LI h' ad bd o σ' F' := by
  have r1 : mh_sc xs N (nI i + (1 : Int32)) = some (xs (i + 1)) := mh_scr hi hN (j := 1) (by omega)
  have r2 : mh_sc xs N (nI i + (2 : Int32)) = some (xs (i + 2)) := mh_scr hi hN (j := 2) (by omega)
  have r3 : mh_sc xs N (nI i + (3 : Int32)) = some (xs (i + 3)) := mh_scr hi hN (j := 3) (by omega)
  have hG := hL.2.1.gd
  have h20 := hL.2.2.2.2.2.2
  have hK : ∃ r h1 σ1, f_X11_fewest_e (ad 1289) (xs (i + 1)) ((((xs (i + 2))).toInt64 <<< (((32 : Int32)).toInt64 &&& 63)) ||| (((xs (i + 3))).toInt64 &&& (4294967295 : Int64))) h = some (r, h1) ∧ (fun (r : Nat ⊕ Int64) (σ' : mh_Sg) => (mh_Qm σ (xs (i + 1)) (mh_Bfew ((((xs (i + 2))).toInt64 <<< (((32 : Int32)).toInt64 &&& 63)) ||| (((xs (i + 3))).toInt64 &&& (4294967295 : Int64))))) r ∧ σ' = σ) r σ1 ∧ mh_CI h1 ad σ1 ∧ mh_frC ad h h1 := by
    obtain ⟨r, h1, e1, e2, e3, e4⟩ := mh_K_fewest hL.1 (xs (i + 1)) ((((xs (i + 2))).toInt64 <<< (((32 : Int32)).toInt64 &&& 63)) ||| (((xs (i + 3))).toInt64 &&& (4294967295 : Int64)))
    exact ⟨r, h1, σ, e1, ⟨e2, rfl⟩, e3, e4⟩
  have hM : ∀ h F, mh_RI h bd σ F → ∃ r v h' σ' F', (fun h => f_X12_fewest_e (bd 0) (xs (i + 1)) ((((xs (i + 2))).toInt64 <<< (((32 : Int32)).toInt64 &&& 63)) ||| (((xs (i + 3))).toInt64 &&& (4294967295 : Int64))) h) h = some (v, h') ∧ (fun (r : Nat ⊕ Int64) (σ' : mh_Sg) => (mh_Qm σ (xs (i + 1)) (mh_Bfew ((((xs (i + 2))).toInt64 <<< (((32 : Int32)).toInt64 &&& 63)) ||| (((xs (i + 3))).toInt64 &&& (4294967295 : Int64))))) r ∧ σ' = σ) r σ' ∧ mh_an r v F' ∧ mh_RI h' bd σ' F' ∧ mh_frR bd h h' := fun h F hR => by
    obtain ⟨r, v, h1, F1, e1, e2, e3, e4, e5⟩ := mh_M_fewest hR (xs (i + 1)) ((((xs (i + 2))).toInt64 <<< (((32 : Int32)).toInt64 &&& 63)) ||| (((xs (i + 3))).toInt64 &&& (4294967295 : Int64)))
    exact ⟨r, v, h1, σ, F1, e1, ⟨e2, rfl⟩, e3, e4, e5⟩
  have hu : ∀ (r r' : Nat ⊕ Int64) (σ1 σ2 : mh_Sg), (fun (r : Nat ⊕ Int64) (σ' : mh_Sg) => (mh_Qm σ (xs (i + 1)) (mh_Bfew ((((xs (i + 2))).toInt64 <<< (((32 : Int32)).toInt64 &&& 63)) ||| (((xs (i + 3))).toInt64 &&& (4294967295 : Int64))))) r ∧ σ' = σ) r σ1 → (fun (r : Nat ⊕ Int64) (σ' : mh_Sg) => (mh_Qm σ (xs (i + 1)) (mh_Bfew ((((xs (i + 2))).toInt64 <<< (((32 : Int32)).toInt64 &&& 63)) ||| (((xs (i + 3))).toInt64 &&& (4294967295 : Int64))))) r ∧ σ' = σ) r' σ2 → r = r' ∧ σ1 = σ2 := fun _ _ _ _ a b => ⟨mh_Qm_v (B := (mh_Bfew ((((xs (i + 2))).toInt64 <<< (((32 : Int32)).toInt64 &&& 63)) ||| (((xs (i + 3))).toInt64 &&& (4294967295 : Int64))))) hG (fun _ _ _ m a b => mh_Bfew_u a b) a.1 b.1, a.2.trans b.2.symm⟩
  have hc : ∀ (e : Nat) (σ1 : mh_Sg), (fun (r : Nat ⊕ Int64) (σ' : mh_Sg) => (mh_Qm σ (xs (i + 1)) (mh_Bfew ((((xs (i + 2))).toInt64 <<< (((32 : Int32)).toInt64 &&& 63)) ||| (((xs (i + 3))).toInt64 &&& (4294967295 : Int64))))) r ∧ σ' = σ) (.inl e) σ1 → (fun e => e = 1 ∨ e = 2) e := fun e σ1 a => mh_Qm_c (P := (fun e => e = 1 ∨ e = 2)) (Or.inl rfl) (fun cs e q => by show e = 1 ∨ e = 2; first | (simp [mh_Bfew] at q; done) | (simp [mh_Bfew] at q; omega) | (simp [mh_Bfew] at q; grind)) a.1
  have h2 : ∀ (r : Nat ⊕ Int64) (σ1 : mh_Sg), (fun (r : Nat ⊕ Int64) (σ' : mh_Sg) => (mh_Qm σ (xs (i + 1)) (mh_Bfew ((((xs (i + 2))).toInt64 <<< (((32 : Int32)).toInt64 &&& 63)) ||| (((xs (i + 3))).toInt64 &&& (4294967295 : Int64))))) r ∧ σ' = σ) r σ1 → mh_St20 σ1 := fun r σ1 a => by rw [a.2]; exact h20
  have hfx : ∀ (e : Nat) (h' : mh_H), (fun e => e = 1 ∨ e = 2) e → (fun (k : Nat) (h2 : mh_H) => if k = 1 then (some ((1 : Int32), h2)) else if k = 2 then (some ((2 : Int32), h2)) else none) e h' = some (nI e, h') := fun e h' q => by
    have q : e = 1 ∨ e = 2 := q
    rcases q with rfl | rfl
    · exact if_pos rfl
    · exact (if_neg (by decide)).trans (if_pos rfl)
  have hf : ∀ (v : Int64) (h' : mh_H) (fl : Nat → Int64), h' o = some (.inl (1, 1, .inr (.inl fl))) → (fun (w3 : Int64) (h1 : mh_H) => (mh_sJ h1 o (0 : Int32) w3).bind fun h4 => some ((0 : Int32), h4)) v h' = some (0, mh_up h' o (.inl (1, 1, .inr (.inl (vp_updL fl 0 ((fun v => v) v)))))) := fun v h' fl ho => by
    have s0 : ∀ w, mh_sJ h' o (0 : Int32) w = some (mh_up h' o (.inl (1, 1, .inr (.inl (vp_updL fl 0 w))))) := fun w => mh_sJ_eq (j := 0) ho (by omega) (by omega)
    show (mh_sJ h' o (0 : Int32) _).bind _ = _
    rw [s0, Option.bind_some]
  obtain ⟨k, hb, v, hd, σ1, F1, fs2, fs3, e1, e2, e3, e4, e5, e6, e7⟩ := mh_step (P := (fun e => e = 1 ∨ e = 2)) (g := (fun v => v)) hL hK hM hu hc (fun _ q => q) h2 hfx hf
  have e1 : f_L_fewest_e (ad 1289) (xs (i + 1)) ((((xs (i + 2))).toInt64 <<< (((32 : Int32)).toInt64 &&& 63)) ||| (((xs (i + 3))).toInt64 &&& (4294967295 : Int64))) o h = some (k, hb) := e1
  refine ⟨hd, σ1, F1, ?_, e7⟩
  unfold f_L_k5
  simp only [r1, r2, r3, Option.bind_some]
  rw [mh_b2_eq e1, mh_cal_eq e2, mh_b2_eq e3, mh_cal_eq e4, mh_b2_eq e5]
  exact mh_tail e6
set_option maxRecDepth 10000 in
theorem mh_L_k6 (hL : mh_LI h ad bd o σ F) (hi : i + 5 ≤ N) (hN : N ≤ 2560) : ∃ h' σ' F', f_L_k6 xs N (ad 1289) (bd 0) o (nI i) h = some h' ∧ mh_LI h' ad bd o σ' F' := by
  have r1 : mh_sc xs N (nI i + (1 : Int32)) = some (xs (i + 1)) := mh_scr hi hN (j := 1) (by omega)
  have r2 : mh_sc xs N (nI i + (2 : Int32)) = some (xs (i + 2)) := mh_scr hi hN (j := 2) (by omega)
  have r3 : mh_sc xs N (nI i + (3 : Int32)) = some (xs (i + 3)) := mh_scr hi hN (j := 3) (by omega)
  have r4 : mh_sc xs N (nI i + (4 : Int32)) = some (xs (i + 4)) := mh_scr hi hN (j := 4) (by omega)
  have hG := hL.2.1.gd
  have h20 := hL.2.2.2.2.2.2
  have hK : ∃ r h1 σ1, f_X11_with_e (ad 1289) (xs (i + 1)) ((((xs (i + 2))).toInt64 <<< (((32 : Int32)).toInt64 &&& 63)) ||| (((xs (i + 3))).toInt64 &&& (4294967295 : Int64))) (xs (i + 4)) h = some (r, h1) ∧ (fun (r : Nat ⊕ Int64) (σ' : mh_Sg) => (mh_Qm σ (xs (i + 1)) (mh_Bwith ((((xs (i + 2))).toInt64 <<< (((32 : Int32)).toInt64 &&& 63)) ||| (((xs (i + 3))).toInt64 &&& (4294967295 : Int64))) (xs (i + 4)))) r ∧ σ' = σ) r σ1 ∧ mh_CI h1 ad σ1 ∧ mh_frC ad h h1 := by
    obtain ⟨r, h1, e1, e2, e3, e4⟩ := mh_K_with hL.1 (xs (i + 1)) ((((xs (i + 2))).toInt64 <<< (((32 : Int32)).toInt64 &&& 63)) ||| (((xs (i + 3))).toInt64 &&& (4294967295 : Int64))) (xs (i + 4))
    exact ⟨r, h1, σ, e1, ⟨e2, rfl⟩, e3, e4⟩
  have hM : ∀ h F, mh_RI h bd σ F → ∃ r v h' σ' F', (fun h => f_X12_with_e (bd 0) (xs (i + 1)) ((((xs (i + 2))).toInt64 <<< (((32 : Int32)).toInt64 &&& 63)) ||| (((xs (i + 3))).toInt64 &&& (4294967295 : Int64))) (xs (i + 4)) h) h = some (v, h') ∧ (fun (r : Nat ⊕ Int64) (σ' : mh_Sg) => (mh_Qm σ (xs (i + 1)) (mh_Bwith ((((xs (i + 2))).toInt64 <<< (((32 : Int32)).toInt64 &&& 63)) ||| (((xs (i + 3))).toInt64 &&& (4294967295 : Int64))) (xs (i + 4)))) r ∧ σ' = σ) r σ' ∧ mh_an r v F' ∧ mh_RI h' bd σ' F' ∧ mh_frR bd h h' := fun h F hR => by
    obtain ⟨r, v, h1, F1, e1, e2, e3, e4, e5⟩ := mh_M_with hR (xs (i + 1)) ((((xs (i + 2))).toInt64 <<< (((32 : Int32)).toInt64 &&& 63)) ||| (((xs (i + 3))).toInt64 &&& (4294967295 : Int64))) (xs (i + 4))
    exact ⟨r, v, h1, σ, F1, e1, ⟨e2, rfl⟩, e3, e4, e5⟩
  have hu : ∀ (r r' : Nat ⊕ Int64) (σ1 σ2 : mh_Sg), (fun (r : Nat ⊕ Int64) (σ' : mh_Sg) => (mh_Qm σ (xs (i + 1)) (mh_Bwith ((((xs (i + 2))).toInt64 <<< (((32 : Int32)).toInt64 &&& 63)) ||| (((xs (i + 3))).toInt64 &&& (4294967295 : Int64))) (xs (i + 4)))) r ∧ σ' = σ) r σ1 → (fun (r : Nat ⊕ Int64) (σ' : mh_Sg) => (mh_Qm σ (xs (i + 1)) (mh_Bwith ((((xs (i + 2))).toInt64 <<< (((32 : Int32)).toInt64 &&& 63)) ||| (((xs (i + 3))).toInt64 &&& (4294967295 : Int64))) (xs (i + 4)))) r ∧ σ' = σ) r' σ2 → r = r' ∧ σ1 = σ2 := fun _ _ _ _ a b => ⟨mh_Qm_v (B := (mh_Bwith ((((xs (i + 2))).toInt64 <<< (((32 : Int32)).toInt64 &&& 63)) ||| (((xs (i + 3))).toInt64 &&& (4294967295 : Int64))) (xs (i + 4)))) hG (fun _ _ _ m a b => mh_Bwith_u m a b) a.1 b.1, a.2.trans b.2.symm⟩
  have hc : ∀ (e : Nat) (σ1 : mh_Sg), (fun (r : Nat ⊕ Int64) (σ' : mh_Sg) => (mh_Qm σ (xs (i + 1)) (mh_Bwith ((((xs (i + 2))).toInt64 <<< (((32 : Int32)).toInt64 &&& 63)) ||| (((xs (i + 3))).toInt64 &&& (4294967295 : Int64))) (xs (i + 4)))) r ∧ σ' = σ) (.inl e) σ1 → (fun e => e = 1 ∨ e = 2) e := fun e σ1 a => mh_Qm_c (P := (fun e => e = 1 ∨ e = 2)) (Or.inl rfl) (fun cs e q => by show e = 1 ∨ e = 2; first | (simp [mh_Bwith] at q; done) | (simp [mh_Bwith] at q; omega) | (simp [mh_Bwith] at q; grind)) a.1
  have h2 : ∀ (r : Nat ⊕ Int64) (σ1 : mh_Sg), (fun (r : Nat ⊕ Int64) (σ' : mh_Sg) => (mh_Qm σ (xs (i + 1)) (mh_Bwith ((((xs (i + 2))).toInt64 <<< (((32 : Int32)).toInt64 &&& 63)) ||| (((xs (i + 3))).toInt64 &&& (4294967295 : Int64))) (xs (i + 4)))) r ∧ σ' = σ) r σ1 → mh_St20 σ1 := fun r σ1 a => by rw [a.2]; exact h20
  have hfx : ∀ (e : Nat) (h' : mh_H), (fun e => e = 1 ∨ e = 2) e → (fun (k : Nat) (h2 : mh_H) => if k = 1 then (some ((1 : Int32), h2)) else if k = 2 then (some ((2 : Int32), h2)) else none) e h' = some (nI e, h') := fun e h' q => by
    have q : e = 1 ∨ e = 2 := q
    rcases q with rfl | rfl
    · exact if_pos rfl
    · exact (if_neg (by decide)).trans (if_pos rfl)
  have hf : ∀ (v : Int64) (h' : mh_H) (fl : Nat → Int64), h' o = some (.inl (1, 1, .inr (.inl fl))) → (fun (w3 : Int64) (h1 : mh_H) => (mh_sJ h1 o (0 : Int32) w3).bind fun h4 => some ((0 : Int32), h4)) v h' = some (0, mh_up h' o (.inl (1, 1, .inr (.inl (vp_updL fl 0 ((fun v => v) v)))))) := fun v h' fl ho => by
    have s0 : ∀ w, mh_sJ h' o (0 : Int32) w = some (mh_up h' o (.inl (1, 1, .inr (.inl (vp_updL fl 0 w))))) := fun w => mh_sJ_eq (j := 0) ho (by omega) (by omega)
    show (mh_sJ h' o (0 : Int32) _).bind _ = _
    rw [s0, Option.bind_some]
  obtain ⟨k, hb, v, hd, σ1, F1, fs2, fs3, e1, e2, e3, e4, e5, e6, e7⟩ := mh_step (P := (fun e => e = 1 ∨ e = 2)) (g := (fun v => v)) hL hK hM hu hc (fun _ q => q) h2 hfx hf
  have e1 : f_L_with_e (ad 1289) (xs (i + 1)) ((((xs (i + 2))).toInt64 <<< (((32 : Int32)).toInt64 &&& 63)) ||| (((xs (i + 3))).toInt64 &&& (4294967295 : Int64))) (xs (i + 4)) o h = some (k, hb) := e1
  refine ⟨hd, σ1, F1, ?_, e7⟩
  unfold f_L_k6
  simp only [r1, r2, r3, r4, Option.bind_some]
  rw [mh_b2_eq e1, mh_cal_eq e2, mh_b2_eq e3, mh_cal_eq e4, mh_b2_eq e5]
  exact mh_tail e6
set_option maxRecDepth 10000 in
theorem mh_L_k7 (hL : mh_LI h ad bd o σ F) (hi : i + 5 ≤ N) (hN : N ≤ 2560) : ∃ h' σ' F', f_L_k7 xs N (ad 1289) (bd 0) o (nI i) h = some h' ∧ mh_LI h' ad bd o σ' F' := by
  have r1 : mh_sc xs N (nI i + (1 : Int32)) = some (xs (i + 1)) := mh_scr hi hN (j := 1) (by omega)
  have r2 : mh_sc xs N (nI i + (2 : Int32)) = some (xs (i + 2)) := mh_scr hi hN (j := 2) (by omega)
  have r3 : mh_sc xs N (nI i + (3 : Int32)) = some (xs (i + 3)) := mh_scr hi hN (j := 3) (by omega)
  have hG := hL.2.1.gd
  have h20 := hL.2.2.2.2.2.2
  have hK : ∃ r h1 σ1, f_X11_greedy_e (ad 1289) (xs (i + 1)) ((((xs (i + 2))).toInt64 <<< (((32 : Int32)).toInt64 &&& 63)) ||| (((xs (i + 3))).toInt64 &&& (4294967295 : Int64))) h = some (r, h1) ∧ (fun (r : Nat ⊕ Int64) (σ' : mh_Sg) => (mh_Qm σ (xs (i + 1)) (mh_Bgy ((((xs (i + 2))).toInt64 <<< (((32 : Int32)).toInt64 &&& 63)) ||| (((xs (i + 3))).toInt64 &&& (4294967295 : Int64))))) r ∧ σ' = σ) r σ1 ∧ mh_CI h1 ad σ1 ∧ mh_frC ad h h1 := by
    obtain ⟨r, e1, e2⟩ := mh_K_greedy hL.1 (xs (i + 1)) ((((xs (i + 2))).toInt64 <<< (((32 : Int32)).toInt64 &&& 63)) ||| (((xs (i + 3))).toInt64 &&& (4294967295 : Int64)))
    exact ⟨r, h, σ, e1, ⟨e2, rfl⟩, hL.1, mh_frC.rfl⟩
  have hM : ∀ h F, mh_RI h bd σ F → ∃ r v h' σ' F', (fun h => f_X12_greedy_e (bd 0) (xs (i + 1)) ((((xs (i + 2))).toInt64 <<< (((32 : Int32)).toInt64 &&& 63)) ||| (((xs (i + 3))).toInt64 &&& (4294967295 : Int64))) h) h = some (v, h') ∧ (fun (r : Nat ⊕ Int64) (σ' : mh_Sg) => (mh_Qm σ (xs (i + 1)) (mh_Bgy ((((xs (i + 2))).toInt64 <<< (((32 : Int32)).toInt64 &&& 63)) ||| (((xs (i + 3))).toInt64 &&& (4294967295 : Int64))))) r ∧ σ' = σ) r σ' ∧ mh_an r v F' ∧ mh_RI h' bd σ' F' ∧ mh_frR bd h h' := fun h F hR => by
    obtain ⟨r, v, h1, F1, e1, e2, e3, e4, e5⟩ := mh_M_greedy hR (xs (i + 1)) ((((xs (i + 2))).toInt64 <<< (((32 : Int32)).toInt64 &&& 63)) ||| (((xs (i + 3))).toInt64 &&& (4294967295 : Int64)))
    exact ⟨r, v, h1, σ, F1, e1, ⟨e2, rfl⟩, e3, e4, e5⟩
  have hu : ∀ (r r' : Nat ⊕ Int64) (σ1 σ2 : mh_Sg), (fun (r : Nat ⊕ Int64) (σ' : mh_Sg) => (mh_Qm σ (xs (i + 1)) (mh_Bgy ((((xs (i + 2))).toInt64 <<< (((32 : Int32)).toInt64 &&& 63)) ||| (((xs (i + 3))).toInt64 &&& (4294967295 : Int64))))) r ∧ σ' = σ) r σ1 → (fun (r : Nat ⊕ Int64) (σ' : mh_Sg) => (mh_Qm σ (xs (i + 1)) (mh_Bgy ((((xs (i + 2))).toInt64 <<< (((32 : Int32)).toInt64 &&& 63)) ||| (((xs (i + 3))).toInt64 &&& (4294967295 : Int64))))) r ∧ σ' = σ) r' σ2 → r = r' ∧ σ1 = σ2 := fun _ _ _ _ a b => ⟨mh_Qm_v (B := (mh_Bgy ((((xs (i + 2))).toInt64 <<< (((32 : Int32)).toInt64 &&& 63)) ||| (((xs (i + 3))).toInt64 &&& (4294967295 : Int64))))) hG (fun _ _ _ m a b => mh_Bgy_u a b) a.1 b.1, a.2.trans b.2.symm⟩
  have hc : ∀ (e : Nat) (σ1 : mh_Sg), (fun (r : Nat ⊕ Int64) (σ' : mh_Sg) => (mh_Qm σ (xs (i + 1)) (mh_Bgy ((((xs (i + 2))).toInt64 <<< (((32 : Int32)).toInt64 &&& 63)) ||| (((xs (i + 3))).toInt64 &&& (4294967295 : Int64))))) r ∧ σ' = σ) (.inl e) σ1 → (fun e => e = 1 ∨ e = 2) e := fun e σ1 a => mh_Qm_c (P := (fun e => e = 1 ∨ e = 2)) (Or.inl rfl) (fun cs e q => by show e = 1 ∨ e = 2; first | (simp [mh_Bgy] at q; done) | (simp [mh_Bgy] at q; omega) | (simp [mh_Bgy] at q; grind)) a.1
  have h2 : ∀ (r : Nat ⊕ Int64) (σ1 : mh_Sg), (fun (r : Nat ⊕ Int64) (σ' : mh_Sg) => (mh_Qm σ (xs (i + 1)) (mh_Bgy ((((xs (i + 2))).toInt64 <<< (((32 : Int32)).toInt64 &&& 63)) ||| (((xs (i + 3))).toInt64 &&& (4294967295 : Int64))))) r ∧ σ' = σ) r σ1 → mh_St20 σ1 := fun r σ1 a => by rw [a.2]; exact h20
  have hfx : ∀ (e : Nat) (h' : mh_H), (fun e => e = 1 ∨ e = 2) e → (fun (k : Nat) (h2 : mh_H) => if k = 1 then (some ((1 : Int32), h2)) else if k = 2 then (some ((2 : Int32), h2)) else none) e h' = some (nI e, h') := fun e h' q => by
    have q : e = 1 ∨ e = 2 := q
    rcases q with rfl | rfl
    · exact if_pos rfl
    · exact (if_neg (by decide)).trans (if_pos rfl)
  have hf : ∀ (v : Int64) (h' : mh_H) (fl : Nat → Int64), h' o = some (.inl (1, 1, .inr (.inl fl))) → (fun (w3 : Int64) (h1 : mh_H) => (mh_sJ h1 o (0 : Int32) w3).bind fun h4 => some ((0 : Int32), h4)) v h' = some (0, mh_up h' o (.inl (1, 1, .inr (.inl (vp_updL fl 0 ((fun v => v) v)))))) := fun v h' fl ho => by
    have s0 : ∀ w, mh_sJ h' o (0 : Int32) w = some (mh_up h' o (.inl (1, 1, .inr (.inl (vp_updL fl 0 w))))) := fun w => mh_sJ_eq (j := 0) ho (by omega) (by omega)
    show (mh_sJ h' o (0 : Int32) _).bind _ = _
    rw [s0, Option.bind_some]
  obtain ⟨k, hb, v, hd, σ1, F1, fs2, fs3, e1, e2, e3, e4, e5, e6, e7⟩ := mh_step (P := (fun e => e = 1 ∨ e = 2)) (g := (fun v => v)) hL hK hM hu hc (fun _ q => q) h2 hfx hf
  have e1 : f_L_greedy_e (ad 1289) (xs (i + 1)) ((((xs (i + 2))).toInt64 <<< (((32 : Int32)).toInt64 &&& 63)) ||| (((xs (i + 3))).toInt64 &&& (4294967295 : Int64))) o h = some (k, hb) := e1
  refine ⟨hd, σ1, F1, ?_, e7⟩
  unfold f_L_k7
  simp only [r1, r2, r3, Option.bind_some]
  rw [mh_b2_eq e1, mh_cal_eq e2, mh_b2_eq e3, mh_cal_eq e4, mh_b2_eq e5]
  exact mh_tail e6
set_option maxRecDepth 10000 in
theorem mh_L_k8 (hL : mh_LI h ad bd o σ F) (hi : i + 5 ≤ N) (hN : N ≤ 2560) : ∃ h' σ' F', f_L_k8 xs N (ad 1289) (bd 0) o (nI i) h = some h' ∧ mh_LI h' ad bd o σ' F' := by
  have r1 : mh_sc xs N (nI i + (1 : Int32)) = some (xs (i + 1)) := mh_scr hi hN (j := 1) (by omega)
  have hG := hL.2.1.gd
  have h20 := hL.2.2.2.2.2.2
  have hK : ∃ r h1 σ1, f_X11_always_e (ad 1289) (xs (i + 1)) h = some (r, h1) ∧ (fun (r : Nat ⊕ Int32) (σ' : mh_Sg) => (mh_Qm σ (xs (i + 1)) (fun cs r => ∃ z, mh_Blf cs z ∧ r = .inr (if z = -1 then 1 else 0))) r ∧ σ' = σ) r σ1 ∧ mh_CI h1 ad σ1 ∧ mh_frC ad h h1 := by
    obtain ⟨r, h1, e1, e2, e3, e4⟩ := mh_K_always hL.1 (xs (i + 1))
    exact ⟨r, h1, σ, e1, ⟨e2, rfl⟩, e3, e4⟩
  have hM : ∀ h F, mh_RI h bd σ F → ∃ r v h' σ' F', (fun h => f_X12_always_e (bd 0) (xs (i + 1)) h) h = some (v, h') ∧ (fun (r : Nat ⊕ Int32) (σ' : mh_Sg) => (mh_Qm σ (xs (i + 1)) (fun cs r => ∃ z, mh_Blf cs z ∧ r = .inr (if z = -1 then 1 else 0))) r ∧ σ' = σ) r σ' ∧ mh_an r v F' ∧ mh_RI h' bd σ' F' ∧ mh_frR bd h h' := fun h F hR => by
    obtain ⟨r, v, h1, F1, e1, e2, e3, e4, e5⟩ := mh_M_always hR (xs (i + 1))
    exact ⟨r, v, h1, σ, F1, e1, ⟨e2, rfl⟩, e3, e4, e5⟩
  have hu : ∀ (r r' : Nat ⊕ Int32) (σ1 σ2 : mh_Sg), (fun (r : Nat ⊕ Int32) (σ' : mh_Sg) => (mh_Qm σ (xs (i + 1)) (fun cs r => ∃ z, mh_Blf cs z ∧ r = .inr (if z = -1 then 1 else 0))) r ∧ σ' = σ) r σ1 → (fun (r : Nat ⊕ Int32) (σ' : mh_Sg) => (mh_Qm σ (xs (i + 1)) (fun cs r => ∃ z, mh_Blf cs z ∧ r = .inr (if z = -1 then 1 else 0))) r ∧ σ' = σ) r' σ2 → r = r' ∧ σ1 = σ2 := fun _ _ _ _ a b => ⟨mh_Qm_v (B := (fun cs r => ∃ z, mh_Blf cs z ∧ r = .inr (if z = -1 then 1 else 0))) hG (fun _ _ _ m a b => (by obtain ⟨z, a1, a2⟩ := a; obtain ⟨y, b1, b2⟩ := b; rw [a2, b2, mh_Blf_u a1 b1])) a.1 b.1, a.2.trans b.2.symm⟩
  have hc : ∀ (e : Nat) (σ1 : mh_Sg), (fun (r : Nat ⊕ Int32) (σ' : mh_Sg) => (mh_Qm σ (xs (i + 1)) (fun cs r => ∃ z, mh_Blf cs z ∧ r = .inr (if z = -1 then 1 else 0))) r ∧ σ' = σ) (.inl e) σ1 → (fun e => e = 1) e := fun e σ1 a => mh_Qm_c (P := (fun e => e = 1)) rfl (fun cs e q => by show e = 1; first | (simp at q; done) | (simp at q; omega) | (simp at q; grind)) a.1
  have h2 : ∀ (r : Nat ⊕ Int32) (σ1 : mh_Sg), (fun (r : Nat ⊕ Int32) (σ' : mh_Sg) => (mh_Qm σ (xs (i + 1)) (fun cs r => ∃ z, mh_Blf cs z ∧ r = .inr (if z = -1 then 1 else 0))) r ∧ σ' = σ) r σ1 → mh_St20 σ1 := fun r σ1 a => by rw [a.2]; exact h20
  have hfx : ∀ (e : Nat) (h' : mh_H), (fun e => e = 1) e → (fun (k : Nat) (h3 : mh_H) => if k = 1 then (some ((1 : Int32), h3)) else none) e h' = some (nI e, h') := fun e h' q => by
    have q : e = 1 := q
    subst q
    exact if_pos rfl
  have hf : ∀ (v : Int32) (h' : mh_H) (fl : Nat → Int64), h' o = some (.inl (1, 1, .inr (.inl fl))) → (fun (v4 : Int32) (h2 : mh_H) => if v4 = 0 then ( f_L_always_b15 o (0 : Int32) (0 : Int64) h2) else f_L_always_b15 o (0 : Int32) (1 : Int64) h2) v h' = some (0, mh_up h' o (.inl (1, 1, .inr (.inl (vp_updL fl 0 ((fun v => if v = 0 then 0 else 1) v)))))) := fun v h' fl ho => by
    have s0 : ∀ w, mh_sJ h' o (0 : Int32) w = some (mh_up h' o (.inl (1, 1, .inr (.inl (vp_updL fl 0 w))))) := fun w => mh_sJ_eq (j := 0) ho (by omega) (by omega)
    show (if v = 0 then _ else _) = some (0, mh_up h' o (.inl (1, 1, .inr (.inl (vp_updL fl 0 (if v = 0 then 0 else 1))))))
    by_cases v0 : v = 0
    · rw [if_pos v0, if_pos v0]
      unfold f_L_always_b15
      rw [s0, Option.bind_some]
    · rw [if_neg v0, if_neg v0]
      unfold f_L_always_b15
      rw [s0, Option.bind_some]
  obtain ⟨k, hb, v, hd, σ1, F1, fs2, fs3, e1, e2, e3, e4, e5, e6, e7⟩ := mh_step (P := (fun e => e = 1)) (g := (fun v => if v = 0 then 0 else 1)) hL hK hM hu hc (fun _ q => Or.inl q) h2 hfx hf
  have e1 : f_L_always_e (ad 1289) (xs (i + 1)) o h = some (k, hb) := e1
  refine ⟨hd, σ1, F1, ?_, e7⟩
  unfold f_L_k8
  simp only [r1, Option.bind_some]
  rw [mh_b2_eq e1, mh_cal_eq e2, mh_b2_eq e3, mh_cal_eq e4, mh_b2_eq e5]
  exact mh_tailz e6
set_option maxRecDepth 10000 in
theorem mh_L_k9 (hL : mh_LI h ad bd o σ F) (hi : i + 5 ≤ N) (hN : N ≤ 2560) : ∃ h' σ' F', f_L_k9 xs N (ad 1289) (bd 0) o (nI i) h = some h' ∧ mh_LI h' ad bd o σ' F' := by
  have r1 : mh_sc xs N (nI i + (1 : Int32)) = some (xs (i + 1)) := mh_scr hi hN (j := 1) (by omega)
  have hG := hL.2.1.gd
  have h20 := hL.2.2.2.2.2.2
  have hK : ∃ r h1 σ1, f_X11_fails_e (ad 1289) (xs (i + 1)) h = some (r, h1) ∧ (fun (r : Nat ⊕ Int32) (σ' : mh_Sg) => (mh_Qm σ (xs (i + 1)) (fun cs r => ∃ z, mh_Blf cs z ∧ r = .inr z)) r ∧ σ' = σ) r σ1 ∧ mh_CI h1 ad σ1 ∧ mh_frC ad h h1 := by
    obtain ⟨r, h1, e1, e2, e3, e4⟩ := mh_K_fails hL.1 (xs (i + 1))
    exact ⟨r, h1, σ, e1, ⟨e2, rfl⟩, e3, e4⟩
  have hM : ∀ h F, mh_RI h bd σ F → ∃ r v h' σ' F', (fun h => f_X12_fails_e (bd 0) (xs (i + 1)) h) h = some (v, h') ∧ (fun (r : Nat ⊕ Int32) (σ' : mh_Sg) => (mh_Qm σ (xs (i + 1)) (fun cs r => ∃ z, mh_Blf cs z ∧ r = .inr z)) r ∧ σ' = σ) r σ' ∧ mh_an r v F' ∧ mh_RI h' bd σ' F' ∧ mh_frR bd h h' := fun h F hR => by
    obtain ⟨r, v, h1, F1, e1, e2, e3, e4, e5⟩ := mh_M_fails hR (xs (i + 1))
    exact ⟨r, v, h1, σ, F1, e1, ⟨e2, rfl⟩, e3, e4, e5⟩
  have hu : ∀ (r r' : Nat ⊕ Int32) (σ1 σ2 : mh_Sg), (fun (r : Nat ⊕ Int32) (σ' : mh_Sg) => (mh_Qm σ (xs (i + 1)) (fun cs r => ∃ z, mh_Blf cs z ∧ r = .inr z)) r ∧ σ' = σ) r σ1 → (fun (r : Nat ⊕ Int32) (σ' : mh_Sg) => (mh_Qm σ (xs (i + 1)) (fun cs r => ∃ z, mh_Blf cs z ∧ r = .inr z)) r ∧ σ' = σ) r' σ2 → r = r' ∧ σ1 = σ2 := fun _ _ _ _ a b => ⟨mh_Qm_v (B := (fun cs r => ∃ z, mh_Blf cs z ∧ r = .inr z)) hG (fun _ _ _ m a b => (by obtain ⟨z, a1, a2⟩ := a; obtain ⟨y, b1, b2⟩ := b; rw [a2, b2, mh_Blf_u a1 b1])) a.1 b.1, a.2.trans b.2.symm⟩
  have hc : ∀ (e : Nat) (σ1 : mh_Sg), (fun (r : Nat ⊕ Int32) (σ' : mh_Sg) => (mh_Qm σ (xs (i + 1)) (fun cs r => ∃ z, mh_Blf cs z ∧ r = .inr z)) r ∧ σ' = σ) (.inl e) σ1 → (fun e => e = 1) e := fun e σ1 a => mh_Qm_c (P := (fun e => e = 1)) rfl (fun cs e q => by show e = 1; first | (simp at q; done) | (simp at q; omega) | (simp at q; grind)) a.1
  have h2 : ∀ (r : Nat ⊕ Int32) (σ1 : mh_Sg), (fun (r : Nat ⊕ Int32) (σ' : mh_Sg) => (mh_Qm σ (xs (i + 1)) (fun cs r => ∃ z, mh_Blf cs z ∧ r = .inr z)) r ∧ σ' = σ) r σ1 → mh_St20 σ1 := fun r σ1 a => by rw [a.2]; exact h20
  have hfx : ∀ (e : Nat) (h' : mh_H), (fun e => e = 1) e → (fun (k : Nat) (h2 : mh_H) => if k = 1 then (some ((1 : Int32), h2)) else none) e h' = some (nI e, h') := fun e h' q => by
    have q : e = 1 := q
    subst q
    exact if_pos rfl
  have hf : ∀ (v : Int32) (h' : mh_H) (fl : Nat → Int64), h' o = some (.inl (1, 1, .inr (.inl fl))) → (fun (v3 : Int32) (h1 : mh_H) => (mh_sJ h1 o (0 : Int32) ((v3).toInt64)).bind fun h4 => some ((0 : Int32), h4)) v h' = some (0, mh_up h' o (.inl (1, 1, .inr (.inl (vp_updL fl 0 ((fun v => v.toInt64) v)))))) := fun v h' fl ho => by
    have s0 : ∀ w, mh_sJ h' o (0 : Int32) w = some (mh_up h' o (.inl (1, 1, .inr (.inl (vp_updL fl 0 w))))) := fun w => mh_sJ_eq (j := 0) ho (by omega) (by omega)
    show (mh_sJ h' o (0 : Int32) _).bind _ = _
    rw [s0, Option.bind_some]
  obtain ⟨k, hb, v, hd, σ1, F1, fs2, fs3, e1, e2, e3, e4, e5, e6, e7⟩ := mh_step (P := (fun e => e = 1)) (g := (fun v => v.toInt64)) hL hK hM hu hc (fun _ q => Or.inl q) h2 hfx hf
  have e1 : f_L_fails_e (ad 1289) (xs (i + 1)) o h = some (k, hb) := e1
  refine ⟨hd, σ1, F1, ?_, e7⟩
  unfold f_L_k9
  simp only [r1, Option.bind_some]
  rw [mh_b2_eq e1, mh_cal_eq e2, mh_b2_eq e3, mh_cal_eq e4, mh_b2_eq e5]
  exact mh_tail e6
set_option maxRecDepth 10000 in
theorem mh_L_k10 (hL : mh_LI h ad bd o σ F) (hi : i + 5 ≤ N) (hN : N ≤ 2560) : ∃ h' σ' F', f_L_k10 xs N (ad 1289) (bd 0) o (nI i) h = some h' ∧ mh_LI h' ad bd o σ' F' := by
  have r1 : mh_sc xs N (nI i + (1 : Int32)) = some (xs (i + 1)) := mh_scr hi hN (j := 1) (by omega)
  have hG := hL.2.1.gd
  have h20 := hL.2.2.2.2.2.2
  have hK : ∃ r h1 σ1, f_X11_divisor_e (ad 1289) (xs (i + 1)) h = some (r, h1) ∧ (fun (r : Nat ⊕ Int32) (σ' : mh_Sg) => (mh_Qm σ (xs (i + 1)) (fun cs r => r = .inr (nI (mh_gd cs 0)))) r ∧ σ' = σ) r σ1 ∧ mh_CI h1 ad σ1 ∧ mh_frC ad h h1 := by
    obtain ⟨r, e1, e2⟩ := mh_K_divisor hL.1 (xs (i + 1))
    exact ⟨r, h, σ, e1, ⟨e2, rfl⟩, hL.1, mh_frC.rfl⟩
  have hM : ∀ h F, mh_RI h bd σ F → ∃ r v h' σ' F', (fun h => f_X12_divisor_e (bd 0) (xs (i + 1)) h) h = some (v, h') ∧ (fun (r : Nat ⊕ Int32) (σ' : mh_Sg) => (mh_Qm σ (xs (i + 1)) (fun cs r => r = .inr (nI (mh_gd cs 0)))) r ∧ σ' = σ) r σ' ∧ mh_an r v F' ∧ mh_RI h' bd σ' F' ∧ mh_frR bd h h' := fun h F hR => by
    obtain ⟨r, v, h1, F1, e1, e2, e3, e4, e5⟩ := mh_M_divisor hR (xs (i + 1))
    exact ⟨r, v, h1, σ, F1, e1, ⟨e2, rfl⟩, e3, e4, e5⟩
  have hu : ∀ (r r' : Nat ⊕ Int32) (σ1 σ2 : mh_Sg), (fun (r : Nat ⊕ Int32) (σ' : mh_Sg) => (mh_Qm σ (xs (i + 1)) (fun cs r => r = .inr (nI (mh_gd cs 0)))) r ∧ σ' = σ) r σ1 → (fun (r : Nat ⊕ Int32) (σ' : mh_Sg) => (mh_Qm σ (xs (i + 1)) (fun cs r => r = .inr (nI (mh_gd cs 0)))) r ∧ σ' = σ) r' σ2 → r = r' ∧ σ1 = σ2 := fun _ _ _ _ a b => ⟨mh_Qm_v (B := (fun cs r => r = .inr (nI (mh_gd cs 0)))) hG (fun _ _ _ m a b => a.trans b.symm) a.1 b.1, a.2.trans b.2.symm⟩
  have hc : ∀ (e : Nat) (σ1 : mh_Sg), (fun (r : Nat ⊕ Int32) (σ' : mh_Sg) => (mh_Qm σ (xs (i + 1)) (fun cs r => r = .inr (nI (mh_gd cs 0)))) r ∧ σ' = σ) (.inl e) σ1 → (fun e => e = 1) e := fun e σ1 a => mh_Qm_c (P := (fun e => e = 1)) rfl (fun cs e q => by show e = 1; first | (simp at q; done) | (simp at q; omega) | (simp at q; grind)) a.1
  have h2 : ∀ (r : Nat ⊕ Int32) (σ1 : mh_Sg), (fun (r : Nat ⊕ Int32) (σ' : mh_Sg) => (mh_Qm σ (xs (i + 1)) (fun cs r => r = .inr (nI (mh_gd cs 0)))) r ∧ σ' = σ) r σ1 → mh_St20 σ1 := fun r σ1 a => by rw [a.2]; exact h20
  have hfx : ∀ (e : Nat) (h' : mh_H), (fun e => e = 1) e → (fun (k : Nat) (h2 : mh_H) => if k = 1 then (some ((1 : Int32), h2)) else none) e h' = some (nI e, h') := fun e h' q => by
    have q : e = 1 := q
    subst q
    exact if_pos rfl
  have hf : ∀ (v : Int32) (h' : mh_H) (fl : Nat → Int64), h' o = some (.inl (1, 1, .inr (.inl fl))) → (fun (v3 : Int32) (h1 : mh_H) => (mh_sJ h1 o (0 : Int32) ((v3).toInt64)).bind fun h4 => some ((0 : Int32), h4)) v h' = some (0, mh_up h' o (.inl (1, 1, .inr (.inl (vp_updL fl 0 ((fun v => v.toInt64) v)))))) := fun v h' fl ho => by
    have s0 : ∀ w, mh_sJ h' o (0 : Int32) w = some (mh_up h' o (.inl (1, 1, .inr (.inl (vp_updL fl 0 w))))) := fun w => mh_sJ_eq (j := 0) ho (by omega) (by omega)
    show (mh_sJ h' o (0 : Int32) _).bind _ = _
    rw [s0, Option.bind_some]
  obtain ⟨k, hb, v, hd, σ1, F1, fs2, fs3, e1, e2, e3, e4, e5, e6, e7⟩ := mh_step (P := (fun e => e = 1)) (g := (fun v => v.toInt64)) hL hK hM hu hc (fun _ q => Or.inl q) h2 hfx hf
  have e1 : f_L_divisor_e (ad 1289) (xs (i + 1)) o h = some (k, hb) := e1
  refine ⟨hd, σ1, F1, ?_, e7⟩
  unfold f_L_k10
  simp only [r1, Option.bind_some]
  rw [mh_b2_eq e1, mh_cal_eq e2, mh_b2_eq e3, mh_cal_eq e4, mh_b2_eq e5]
  exact mh_tail e6
set_option maxRecDepth 10000 in
theorem mh_L_k11 (hL : mh_LI h ad bd o σ F) (hi : i + 5 ≤ N) (hN : N ≤ 2560) : ∃ h' σ' F', f_L_k11 xs N (ad 1289) (bd 0) o (nI i) h = some h' ∧ mh_LI h' ad bd o σ' F' := by
  have r1 : mh_sc xs N (nI i + (1 : Int32)) = some (xs (i + 1)) := mh_scr hi hN (j := 1) (by omega)
  have hG := hL.2.1.gd
  have h20 := hL.2.2.2.2.2.2
  have hK : ∃ r h1 σ1, f_X11_many_e (ad 1289) (xs (i + 1)) h = some (r, h1) ∧ (fun (r : Nat ⊕ Int64) (σ' : mh_Sg) => (mh_Qm σ (xs (i + 1)) mh_Bmany) r ∧ σ' = σ) r σ1 ∧ mh_CI h1 ad σ1 ∧ mh_frC ad h h1 := by
    obtain ⟨r, h1, e1, e2, e3, e4⟩ := mh_K_many hL.1 (xs (i + 1))
    exact ⟨r, h1, σ, e1, ⟨e2, rfl⟩, e3, e4⟩
  have hM : ∀ h F, mh_RI h bd σ F → ∃ r v h' σ' F', (fun h => f_X12_many_e (bd 0) (xs (i + 1)) h) h = some (v, h') ∧ (fun (r : Nat ⊕ Int64) (σ' : mh_Sg) => (mh_Qm σ (xs (i + 1)) mh_Bmany) r ∧ σ' = σ) r σ' ∧ mh_an r v F' ∧ mh_RI h' bd σ' F' ∧ mh_frR bd h h' := fun h F hR => by
    obtain ⟨r, v, h1, F1, e1, e2, e3, e4, e5⟩ := mh_M_many hR (xs (i + 1))
    exact ⟨r, v, h1, σ, F1, e1, ⟨e2, rfl⟩, e3, e4, e5⟩
  have hu : ∀ (r r' : Nat ⊕ Int64) (σ1 σ2 : mh_Sg), (fun (r : Nat ⊕ Int64) (σ' : mh_Sg) => (mh_Qm σ (xs (i + 1)) mh_Bmany) r ∧ σ' = σ) r σ1 → (fun (r : Nat ⊕ Int64) (σ' : mh_Sg) => (mh_Qm σ (xs (i + 1)) mh_Bmany) r ∧ σ' = σ) r' σ2 → r = r' ∧ σ1 = σ2 := fun _ _ _ _ a b => ⟨mh_Qm_v (B := mh_Bmany) hG (fun _ _ _ m a b => mh_Bmany_u a b) a.1 b.1, a.2.trans b.2.symm⟩
  have hc : ∀ (e : Nat) (σ1 : mh_Sg), (fun (r : Nat ⊕ Int64) (σ' : mh_Sg) => (mh_Qm σ (xs (i + 1)) mh_Bmany) r ∧ σ' = σ) (.inl e) σ1 → (fun e => e = 1) e := fun e σ1 a => mh_Qm_c (P := (fun e => e = 1)) rfl (fun cs e q => by show e = 1; first | (simp [mh_Bmany] at q; done) | (simp [mh_Bmany] at q; omega) | (simp [mh_Bmany] at q; grind)) a.1
  have h2 : ∀ (r : Nat ⊕ Int64) (σ1 : mh_Sg), (fun (r : Nat ⊕ Int64) (σ' : mh_Sg) => (mh_Qm σ (xs (i + 1)) mh_Bmany) r ∧ σ' = σ) r σ1 → mh_St20 σ1 := fun r σ1 a => by rw [a.2]; exact h20
  have hfx : ∀ (e : Nat) (h' : mh_H), (fun e => e = 1) e → (fun (k : Nat) (h2 : mh_H) => if k = 1 then (some ((1 : Int32), h2)) else none) e h' = some (nI e, h') := fun e h' q => by
    have q : e = 1 := q
    subst q
    exact if_pos rfl
  have hf : ∀ (v : Int64) (h' : mh_H) (fl : Nat → Int64), h' o = some (.inl (1, 1, .inr (.inl fl))) → (fun (w3 : Int64) (h1 : mh_H) => (mh_sJ h1 o (0 : Int32) w3).bind fun h4 => some ((0 : Int32), h4)) v h' = some (0, mh_up h' o (.inl (1, 1, .inr (.inl (vp_updL fl 0 ((fun v => v) v)))))) := fun v h' fl ho => by
    have s0 : ∀ w, mh_sJ h' o (0 : Int32) w = some (mh_up h' o (.inl (1, 1, .inr (.inl (vp_updL fl 0 w))))) := fun w => mh_sJ_eq (j := 0) ho (by omega) (by omega)
    show (mh_sJ h' o (0 : Int32) _).bind _ = _
    rw [s0, Option.bind_some]
  obtain ⟨k, hb, v, hd, σ1, F1, fs2, fs3, e1, e2, e3, e4, e5, e6, e7⟩ := mh_step (P := (fun e => e = 1)) (g := (fun v => v)) hL hK hM hu hc (fun _ q => Or.inl q) h2 hfx hf
  have e1 : f_L_many_e (ad 1289) (xs (i + 1)) o h = some (k, hb) := e1
  refine ⟨hd, σ1, F1, ?_, e7⟩
  unfold f_L_k11
  simp only [r1, Option.bind_some]
  rw [mh_b2_eq e1, mh_cal_eq e2, mh_b2_eq e3, mh_cal_eq e4, mh_b2_eq e5]
  exact mh_tail e6
set_option maxRecDepth 10000 in
theorem mh_L_k12 (hL : mh_LI h ad bd o σ F) (hi : i + 5 ≤ N) (hN : N ≤ 2560) : ∃ h' σ' F', f_L_k12 xs N (ad 1289) (bd 0) o (nI i) h = some h' ∧ mh_LI h' ad bd o σ' F' := by
  have r1 : mh_sc xs N (nI i + (1 : Int32)) = some (xs (i + 1)) := mh_scr hi hN (j := 1) (by omega)
  have hG := hL.2.1.gd
  have h20 := hL.2.2.2.2.2.2
  have hK : ∃ r h1 σ1, f_X11_last_e (ad 1289) (xs (i + 1)) h = some (r, h1) ∧ (fun (r : Nat ⊕ Int32) (σ' : mh_Sg) => (mh_Qm σ (xs (i + 1)) (fun cs r => ∃ z, mh_Blast cs z ∧ r = .inr z)) r ∧ σ' = σ) r σ1 ∧ mh_CI h1 ad σ1 ∧ mh_frC ad h h1 := by
    obtain ⟨r, h1, e1, e2, e3, e4⟩ := mh_K_last hL.1 (xs (i + 1))
    exact ⟨r, h1, σ, e1, ⟨e2, rfl⟩, e3, e4⟩
  have hM : ∀ h F, mh_RI h bd σ F → ∃ r v h' σ' F', (fun h => f_X12_last_e (bd 0) (xs (i + 1)) h) h = some (v, h') ∧ (fun (r : Nat ⊕ Int32) (σ' : mh_Sg) => (mh_Qm σ (xs (i + 1)) (fun cs r => ∃ z, mh_Blast cs z ∧ r = .inr z)) r ∧ σ' = σ) r σ' ∧ mh_an r v F' ∧ mh_RI h' bd σ' F' ∧ mh_frR bd h h' := fun h F hR => by
    obtain ⟨r, v, h1, F1, e1, e2, e3, e4, e5⟩ := mh_M_last hR (xs (i + 1))
    exact ⟨r, v, h1, σ, F1, e1, ⟨e2, rfl⟩, e3, e4, e5⟩
  have hu : ∀ (r r' : Nat ⊕ Int32) (σ1 σ2 : mh_Sg), (fun (r : Nat ⊕ Int32) (σ' : mh_Sg) => (mh_Qm σ (xs (i + 1)) (fun cs r => ∃ z, mh_Blast cs z ∧ r = .inr z)) r ∧ σ' = σ) r σ1 → (fun (r : Nat ⊕ Int32) (σ' : mh_Sg) => (mh_Qm σ (xs (i + 1)) (fun cs r => ∃ z, mh_Blast cs z ∧ r = .inr z)) r ∧ σ' = σ) r' σ2 → r = r' ∧ σ1 = σ2 := fun _ _ _ _ a b => ⟨mh_Qm_v (B := (fun cs r => ∃ z, mh_Blast cs z ∧ r = .inr z)) hG (fun _ _ _ m a b => (by obtain ⟨z, a1, a2⟩ := a; obtain ⟨y, b1, b2⟩ := b; rw [a2, b2, mh_Blast_u a1 b1])) a.1 b.1, a.2.trans b.2.symm⟩
  have hc : ∀ (e : Nat) (σ1 : mh_Sg), (fun (r : Nat ⊕ Int32) (σ' : mh_Sg) => (mh_Qm σ (xs (i + 1)) (fun cs r => ∃ z, mh_Blast cs z ∧ r = .inr z)) r ∧ σ' = σ) (.inl e) σ1 → (fun e => e = 1) e := fun e σ1 a => mh_Qm_c (P := (fun e => e = 1)) rfl (fun cs e q => by show e = 1; first | (simp at q; done) | (simp at q; omega) | (simp at q; grind)) a.1
  have h2 : ∀ (r : Nat ⊕ Int32) (σ1 : mh_Sg), (fun (r : Nat ⊕ Int32) (σ' : mh_Sg) => (mh_Qm σ (xs (i + 1)) (fun cs r => ∃ z, mh_Blast cs z ∧ r = .inr z)) r ∧ σ' = σ) r σ1 → mh_St20 σ1 := fun r σ1 a => by rw [a.2]; exact h20
  have hfx : ∀ (e : Nat) (h' : mh_H), (fun e => e = 1) e → (fun (k : Nat) (h2 : mh_H) => if k = 1 then (some ((1 : Int32), h2)) else none) e h' = some (nI e, h') := fun e h' q => by
    have q : e = 1 := q
    subst q
    exact if_pos rfl
  have hf : ∀ (v : Int32) (h' : mh_H) (fl : Nat → Int64), h' o = some (.inl (1, 1, .inr (.inl fl))) → (fun (v3 : Int32) (h1 : mh_H) => (mh_sJ h1 o (0 : Int32) ((v3).toInt64)).bind fun h4 => some ((0 : Int32), h4)) v h' = some (0, mh_up h' o (.inl (1, 1, .inr (.inl (vp_updL fl 0 ((fun v => v.toInt64) v)))))) := fun v h' fl ho => by
    have s0 : ∀ w, mh_sJ h' o (0 : Int32) w = some (mh_up h' o (.inl (1, 1, .inr (.inl (vp_updL fl 0 w))))) := fun w => mh_sJ_eq (j := 0) ho (by omega) (by omega)
    show (mh_sJ h' o (0 : Int32) _).bind _ = _
    rw [s0, Option.bind_some]
  obtain ⟨k, hb, v, hd, σ1, F1, fs2, fs3, e1, e2, e3, e4, e5, e6, e7⟩ := mh_step (P := (fun e => e = 1)) (g := (fun v => v.toInt64)) hL hK hM hu hc (fun _ q => Or.inl q) h2 hfx hf
  have e1 : f_L_last_e (ad 1289) (xs (i + 1)) o h = some (k, hb) := e1
  refine ⟨hd, σ1, F1, ?_, e7⟩
  unfold f_L_k12
  simp only [r1, Option.bind_some]
  rw [mh_b2_eq e1, mh_cal_eq e2, mh_b2_eq e3, mh_cal_eq e4, mh_b2_eq e5]
  exact mh_tail e6
set_option maxRecDepth 10000 in
theorem mh_L_k13 (hL : mh_LI h ad bd o σ F) (hi : i + 5 ≤ N) (hN : N ≤ 2560) : ∃ h' σ' F', f_L_k13 xs N (ad 1289) (bd 0) o (nI i) h = some h' ∧ mh_LI h' ad bd o σ' F' := by
  have r1 : mh_sc xs N (nI i + (1 : Int32)) = some (xs (i + 1)) := mh_scr hi hN (j := 1) (by omega)
  have r2 : mh_sc xs N (nI i + (2 : Int32)) = some (xs (i + 2)) := mh_scr hi hN (j := 2) (by omega)
  have hG := hL.2.1.gd
  have h20 := hL.2.2.2.2.2.2
  have hK : ∃ r h1 σ1, f_X11_gap_e (ad 1289) (xs (i + 1)) (xs (i + 2)) h = some (r, h1) ∧ (fun (r : Nat ⊕ Int32) (σ' : mh_Sg) => (mh_Qm σ (xs (i + 1)) (mh_Bgap (xs (i + 2)))) r ∧ σ' = σ) r σ1 ∧ mh_CI h1 ad σ1 ∧ mh_frC ad h h1 := by
    obtain ⟨r, h1, e1, e2, e3, e4⟩ := mh_K_gap hL.1 (xs (i + 1)) (xs (i + 2))
    exact ⟨r, h1, σ, e1, ⟨e2, rfl⟩, e3, e4⟩
  have hM : ∀ h F, mh_RI h bd σ F → ∃ r v h' σ' F', (fun h => f_X12_gap_e (bd 0) (xs (i + 1)) (xs (i + 2)) h) h = some (v, h') ∧ (fun (r : Nat ⊕ Int32) (σ' : mh_Sg) => (mh_Qm σ (xs (i + 1)) (mh_Bgap (xs (i + 2)))) r ∧ σ' = σ) r σ' ∧ mh_an r v F' ∧ mh_RI h' bd σ' F' ∧ mh_frR bd h h' := fun h F hR => by
    obtain ⟨r, v, h1, F1, e1, e2, e3, e4, e5⟩ := mh_M_gap hR (xs (i + 1)) (xs (i + 2))
    exact ⟨r, v, h1, σ, F1, e1, ⟨e2, rfl⟩, e3, e4, e5⟩
  have hu : ∀ (r r' : Nat ⊕ Int32) (σ1 σ2 : mh_Sg), (fun (r : Nat ⊕ Int32) (σ' : mh_Sg) => (mh_Qm σ (xs (i + 1)) (mh_Bgap (xs (i + 2)))) r ∧ σ' = σ) r σ1 → (fun (r : Nat ⊕ Int32) (σ' : mh_Sg) => (mh_Qm σ (xs (i + 1)) (mh_Bgap (xs (i + 2)))) r ∧ σ' = σ) r' σ2 → r = r' ∧ σ1 = σ2 := fun _ _ _ _ a b => ⟨mh_Qm_v (B := (mh_Bgap (xs (i + 2)))) hG (fun _ _ _ m a b => mh_Bgap_u a b) a.1 b.1, a.2.trans b.2.symm⟩
  have hc : ∀ (e : Nat) (σ1 : mh_Sg), (fun (r : Nat ⊕ Int32) (σ' : mh_Sg) => (mh_Qm σ (xs (i + 1)) (mh_Bgap (xs (i + 2)))) r ∧ σ' = σ) (.inl e) σ1 → (fun e => e = 1 ∨ e = 2) e := fun e σ1 a => mh_Qm_c (P := (fun e => e = 1 ∨ e = 2)) (Or.inl rfl) (fun cs e q => by show e = 1 ∨ e = 2; first | (simp [mh_Bgap] at q; done) | (simp [mh_Bgap] at q; omega) | (simp [mh_Bgap] at q; grind)) a.1
  have h2 : ∀ (r : Nat ⊕ Int32) (σ1 : mh_Sg), (fun (r : Nat ⊕ Int32) (σ' : mh_Sg) => (mh_Qm σ (xs (i + 1)) (mh_Bgap (xs (i + 2)))) r ∧ σ' = σ) r σ1 → mh_St20 σ1 := fun r σ1 a => by rw [a.2]; exact h20
  have hfx : ∀ (e : Nat) (h' : mh_H), (fun e => e = 1 ∨ e = 2) e → (fun (k : Nat) (h2 : mh_H) => if k = 1 then (some ((1 : Int32), h2)) else if k = 2 then (some ((2 : Int32), h2)) else none) e h' = some (nI e, h') := fun e h' q => by
    have q : e = 1 ∨ e = 2 := q
    rcases q with rfl | rfl
    · exact if_pos rfl
    · exact (if_neg (by decide)).trans (if_pos rfl)
  have hf : ∀ (v : Int32) (h' : mh_H) (fl : Nat → Int64), h' o = some (.inl (1, 1, .inr (.inl fl))) → (fun (v3 : Int32) (h1 : mh_H) => (mh_sJ h1 o (0 : Int32) ((v3).toInt64)).bind fun h4 => some ((0 : Int32), h4)) v h' = some (0, mh_up h' o (.inl (1, 1, .inr (.inl (vp_updL fl 0 ((fun v => v.toInt64) v)))))) := fun v h' fl ho => by
    have s0 : ∀ w, mh_sJ h' o (0 : Int32) w = some (mh_up h' o (.inl (1, 1, .inr (.inl (vp_updL fl 0 w))))) := fun w => mh_sJ_eq (j := 0) ho (by omega) (by omega)
    show (mh_sJ h' o (0 : Int32) _).bind _ = _
    rw [s0, Option.bind_some]
  obtain ⟨k, hb, v, hd, σ1, F1, fs2, fs3, e1, e2, e3, e4, e5, e6, e7⟩ := mh_step (P := (fun e => e = 1 ∨ e = 2)) (g := (fun v => v.toInt64)) hL hK hM hu hc (fun _ q => q) h2 hfx hf
  have e1 : f_L_gap_e (ad 1289) (xs (i + 1)) (xs (i + 2)) o h = some (k, hb) := e1
  refine ⟨hd, σ1, F1, ?_, e7⟩
  unfold f_L_k13
  simp only [r1, r2, Option.bind_some]
  rw [mh_b2_eq e1, mh_cal_eq e2, mh_b2_eq e3, mh_cal_eq e4, mh_b2_eq e5]
  exact mh_tail e6
set_option maxRecDepth 10000 in
theorem mh_L_k14 (hL : mh_LI h ad bd o σ F) (hi : i + 5 ≤ N) (hN : N ≤ 2560) : ∃ h' σ' F', f_L_k14 xs N (ad 1289) (bd 0) o (nI i) h = some h' ∧ mh_LI h' ad bd o σ' F' := by
  have r1 : mh_sc xs N (nI i + (1 : Int32)) = some (xs (i + 1)) := mh_scr hi hN (j := 1) (by omega)
  have r2 : mh_sc xs N (nI i + (2 : Int32)) = some (xs (i + 2)) := mh_scr hi hN (j := 2) (by omega)
  have hG := hL.2.1.gd
  have h20 := hL.2.2.2.2.2.2
  have hK : ∃ r h1 σ1, f_X11_rest_e (ad 1289) (xs (i + 1)) (xs (i + 2)) h = some (r, h1) ∧ (fun (r : Nat ⊕ Int32) (σ' : mh_Sg) => (mh_Qm σ (xs (i + 1)) (mh_Brest (xs (i + 2)))) r ∧ σ' = σ) r σ1 ∧ mh_CI h1 ad σ1 ∧ mh_frC ad h h1 := by
    obtain ⟨r, h1, e1, e2, e3, e4⟩ := mh_K_rest hL.1 (xs (i + 1)) (xs (i + 2))
    exact ⟨r, h1, σ, e1, ⟨e2, rfl⟩, e3, e4⟩
  have hM : ∀ h F, mh_RI h bd σ F → ∃ r v h' σ' F', (fun h => f_X12_rest_e (bd 0) (xs (i + 1)) (xs (i + 2)) h) h = some (v, h') ∧ (fun (r : Nat ⊕ Int32) (σ' : mh_Sg) => (mh_Qm σ (xs (i + 1)) (mh_Brest (xs (i + 2)))) r ∧ σ' = σ) r σ' ∧ mh_an r v F' ∧ mh_RI h' bd σ' F' ∧ mh_frR bd h h' := fun h F hR => by
    obtain ⟨r, v, h1, F1, e1, e2, e3, e4, e5⟩ := mh_M_rest hR (xs (i + 1)) (xs (i + 2))
    exact ⟨r, v, h1, σ, F1, e1, ⟨e2, rfl⟩, e3, e4, e5⟩
  have hu : ∀ (r r' : Nat ⊕ Int32) (σ1 σ2 : mh_Sg), (fun (r : Nat ⊕ Int32) (σ' : mh_Sg) => (mh_Qm σ (xs (i + 1)) (mh_Brest (xs (i + 2)))) r ∧ σ' = σ) r σ1 → (fun (r : Nat ⊕ Int32) (σ' : mh_Sg) => (mh_Qm σ (xs (i + 1)) (mh_Brest (xs (i + 2)))) r ∧ σ' = σ) r' σ2 → r = r' ∧ σ1 = σ2 := fun _ _ _ _ a b => ⟨mh_Qm_v (B := (mh_Brest (xs (i + 2)))) hG (fun _ _ _ m a b => mh_Brest_u m a b) a.1 b.1, a.2.trans b.2.symm⟩
  have hc : ∀ (e : Nat) (σ1 : mh_Sg), (fun (r : Nat ⊕ Int32) (σ' : mh_Sg) => (mh_Qm σ (xs (i + 1)) (mh_Brest (xs (i + 2)))) r ∧ σ' = σ) (.inl e) σ1 → (fun e => e = 1 ∨ e = 2) e := fun e σ1 a => mh_Qm_c (P := (fun e => e = 1 ∨ e = 2)) (Or.inl rfl) (fun cs e q => by show e = 1 ∨ e = 2; first | (simp [mh_Brest] at q; done) | (simp [mh_Brest] at q; omega) | (simp [mh_Brest] at q; grind)) a.1
  have h2 : ∀ (r : Nat ⊕ Int32) (σ1 : mh_Sg), (fun (r : Nat ⊕ Int32) (σ' : mh_Sg) => (mh_Qm σ (xs (i + 1)) (mh_Brest (xs (i + 2)))) r ∧ σ' = σ) r σ1 → mh_St20 σ1 := fun r σ1 a => by rw [a.2]; exact h20
  have hfx : ∀ (e : Nat) (h' : mh_H), (fun e => e = 1 ∨ e = 2) e → (fun (k : Nat) (h2 : mh_H) => if k = 1 then (some ((1 : Int32), h2)) else if k = 2 then (some ((2 : Int32), h2)) else none) e h' = some (nI e, h') := fun e h' q => by
    have q : e = 1 ∨ e = 2 := q
    rcases q with rfl | rfl
    · exact if_pos rfl
    · exact (if_neg (by decide)).trans (if_pos rfl)
  have hf : ∀ (v : Int32) (h' : mh_H) (fl : Nat → Int64), h' o = some (.inl (1, 1, .inr (.inl fl))) → (fun (v3 : Int32) (h1 : mh_H) => (mh_sJ h1 o (0 : Int32) ((v3).toInt64)).bind fun h4 => some ((0 : Int32), h4)) v h' = some (0, mh_up h' o (.inl (1, 1, .inr (.inl (vp_updL fl 0 ((fun v => v.toInt64) v)))))) := fun v h' fl ho => by
    have s0 : ∀ w, mh_sJ h' o (0 : Int32) w = some (mh_up h' o (.inl (1, 1, .inr (.inl (vp_updL fl 0 w))))) := fun w => mh_sJ_eq (j := 0) ho (by omega) (by omega)
    show (mh_sJ h' o (0 : Int32) _).bind _ = _
    rw [s0, Option.bind_some]
  obtain ⟨k, hb, v, hd, σ1, F1, fs2, fs3, e1, e2, e3, e4, e5, e6, e7⟩ := mh_step (P := (fun e => e = 1 ∨ e = 2)) (g := (fun v => v.toInt64)) hL hK hM hu hc (fun _ q => q) h2 hfx hf
  have e1 : f_L_rest_e (ad 1289) (xs (i + 1)) (xs (i + 2)) o h = some (k, hb) := e1
  refine ⟨hd, σ1, F1, ?_, e7⟩
  unfold f_L_k14
  simp only [r1, r2, Option.bind_some]
  rw [mh_b2_eq e1, mh_cal_eq e2, mh_b2_eq e3, mh_cal_eq e4, mh_b2_eq e5]
  exact mh_tail e6
set_option maxRecDepth 10000 in
theorem mh_L_k15 (hL : mh_LI h ad bd o σ F) (hi : i + 5 ≤ N) (hN : N ≤ 2560) : ∃ h' σ' F', f_L_k15 xs N (ad 1289) (bd 0) o (nI i) h = some h' ∧ mh_LI h' ad bd o σ' F' := by
  have r1 : mh_sc xs N (nI i + (1 : Int32)) = some (xs (i + 1)) := mh_scr hi hN (j := 1) (by omega)
  have hG := hL.2.1.gd
  have h20 := hL.2.2.2.2.2.2
  have hK : ∃ r h1 σ1, f_X11_mirror_e (ad 1289) (xs (i + 1)) h = some (r, h1) ∧ (fun (r : Nat ⊕ Int32) (σ' : mh_Sg) => (mh_Qm σ (xs (i + 1)) mh_Bmir) r ∧ σ' = σ) r σ1 ∧ mh_CI h1 ad σ1 ∧ mh_frC ad h h1 := by
    obtain ⟨r, h1, e1, e2, e3, e4⟩ := mh_K_mirror hL.1 (xs (i + 1))
    exact ⟨r, h1, σ, e1, ⟨e2, rfl⟩, e3, e4⟩
  have hM : ∀ h F, mh_RI h bd σ F → ∃ r v h' σ' F', (fun h => f_X12_mirror_e (bd 0) (xs (i + 1)) h) h = some (v, h') ∧ (fun (r : Nat ⊕ Int32) (σ' : mh_Sg) => (mh_Qm σ (xs (i + 1)) mh_Bmir) r ∧ σ' = σ) r σ' ∧ mh_an r v F' ∧ mh_RI h' bd σ' F' ∧ mh_frR bd h h' := fun h F hR => by
    obtain ⟨r, v, h1, F1, e1, e2, e3, e4, e5⟩ := mh_M_mirror hR (xs (i + 1))
    exact ⟨r, v, h1, σ, F1, e1, ⟨e2, rfl⟩, e3, e4, e5⟩
  have hu : ∀ (r r' : Nat ⊕ Int32) (σ1 σ2 : mh_Sg), (fun (r : Nat ⊕ Int32) (σ' : mh_Sg) => (mh_Qm σ (xs (i + 1)) mh_Bmir) r ∧ σ' = σ) r σ1 → (fun (r : Nat ⊕ Int32) (σ' : mh_Sg) => (mh_Qm σ (xs (i + 1)) mh_Bmir) r ∧ σ' = σ) r' σ2 → r = r' ∧ σ1 = σ2 := fun _ _ _ _ a b => ⟨mh_Qm_v (B := mh_Bmir) hG (fun _ _ _ m a b => mh_Bmir_u a b) a.1 b.1, a.2.trans b.2.symm⟩
  have hc : ∀ (e : Nat) (σ1 : mh_Sg), (fun (r : Nat ⊕ Int32) (σ' : mh_Sg) => (mh_Qm σ (xs (i + 1)) mh_Bmir) r ∧ σ' = σ) (.inl e) σ1 → (fun e => e = 1) e := fun e σ1 a => mh_Qm_c (P := (fun e => e = 1)) rfl (fun cs e q => by show e = 1; first | (simp [mh_Bmir] at q; done) | (simp [mh_Bmir] at q; omega) | (simp [mh_Bmir] at q; grind)) a.1
  have h2 : ∀ (r : Nat ⊕ Int32) (σ1 : mh_Sg), (fun (r : Nat ⊕ Int32) (σ' : mh_Sg) => (mh_Qm σ (xs (i + 1)) mh_Bmir) r ∧ σ' = σ) r σ1 → mh_St20 σ1 := fun r σ1 a => by rw [a.2]; exact h20
  have hfx : ∀ (e : Nat) (h' : mh_H), (fun e => e = 1) e → (fun (k : Nat) (h3 : mh_H) => if k = 1 then (some ((1 : Int32), h3)) else none) e h' = some (nI e, h') := fun e h' q => by
    have q : e = 1 := q
    subst q
    exact if_pos rfl
  have hf : ∀ (v : Int32) (h' : mh_H) (fl : Nat → Int64), h' o = some (.inl (1, 1, .inr (.inl fl))) → (fun (v4 : Int32) (h2 : mh_H) => if v4 = 0 then ( f_L_mirror_b15 o (0 : Int32) (0 : Int64) h2) else f_L_mirror_b15 o (0 : Int32) (1 : Int64) h2) v h' = some (0, mh_up h' o (.inl (1, 1, .inr (.inl (vp_updL fl 0 ((fun v => if v = 0 then 0 else 1) v)))))) := fun v h' fl ho => by
    have s0 : ∀ w, mh_sJ h' o (0 : Int32) w = some (mh_up h' o (.inl (1, 1, .inr (.inl (vp_updL fl 0 w))))) := fun w => mh_sJ_eq (j := 0) ho (by omega) (by omega)
    show (if v = 0 then _ else _) = some (0, mh_up h' o (.inl (1, 1, .inr (.inl (vp_updL fl 0 (if v = 0 then 0 else 1))))))
    by_cases v0 : v = 0
    · rw [if_pos v0, if_pos v0]
      unfold f_L_mirror_b15
      rw [s0, Option.bind_some]
    · rw [if_neg v0, if_neg v0]
      unfold f_L_mirror_b15
      rw [s0, Option.bind_some]
  obtain ⟨k, hb, v, hd, σ1, F1, fs2, fs3, e1, e2, e3, e4, e5, e6, e7⟩ := mh_step (P := (fun e => e = 1)) (g := (fun v => if v = 0 then 0 else 1)) hL hK hM hu hc (fun _ q => Or.inl q) h2 hfx hf
  have e1 : f_L_mirror_e (ad 1289) (xs (i + 1)) o h = some (k, hb) := e1
  refine ⟨hd, σ1, F1, ?_, e7⟩
  unfold f_L_k15
  simp only [r1, Option.bind_some]
  rw [mh_b2_eq e1, mh_cal_eq e2, mh_b2_eq e3, mh_cal_eq e4, mh_b2_eq e5]
  exact mh_tailz e6
set_option maxRecDepth 10000 in
theorem mh_L_k16 (hL : mh_LI h ad bd o σ F) (hi : i + 5 ≤ N) (hN : N ≤ 2560) : ∃ h' σ' F', f_L_k16 xs N (ad 1289) (bd 0) o (nI i) h = some h' ∧ mh_LI h' ad bd o σ' F' := by
  have r1 : mh_sc xs N (nI i + (1 : Int32)) = some (xs (i + 1)) := mh_scr hi hN (j := 1) (by omega)
  have hG := hL.2.1.gd
  have h20 := hL.2.2.2.2.2.2
  have hK : ∃ r h1 σ1, f_X11_needed_e (ad 1289) (xs (i + 1)) h = some (r, h1) ∧ (fun (r : Nat ⊕ Int32) (σ' : mh_Sg) => (mh_Qm σ (xs (i + 1)) (fun cs r => r = .inr (mh_nb cs (mh_need cs) cs.length))) r ∧ σ' = σ) r σ1 ∧ mh_CI h1 ad σ1 ∧ mh_frC ad h h1 := by
    obtain ⟨r, h1, e1, e2, e3, e4⟩ := mh_K_needed hL.1 (xs (i + 1))
    exact ⟨r, h1, σ, e1, ⟨e2, rfl⟩, e3, e4⟩
  have hM : ∀ h F, mh_RI h bd σ F → ∃ r v h' σ' F', (fun h => f_X12_needed_e (bd 0) (xs (i + 1)) h) h = some (v, h') ∧ (fun (r : Nat ⊕ Int32) (σ' : mh_Sg) => (mh_Qm σ (xs (i + 1)) (fun cs r => r = .inr (mh_nb cs (mh_need cs) cs.length))) r ∧ σ' = σ) r σ' ∧ mh_an r v F' ∧ mh_RI h' bd σ' F' ∧ mh_frR bd h h' := fun h F hR => by
    obtain ⟨r, v, h1, F1, e1, e2, e3, e4, e5⟩ := mh_M_needed hR (xs (i + 1))
    exact ⟨r, v, h1, σ, F1, e1, ⟨e2, rfl⟩, e3, e4, e5⟩
  have hu : ∀ (r r' : Nat ⊕ Int32) (σ1 σ2 : mh_Sg), (fun (r : Nat ⊕ Int32) (σ' : mh_Sg) => (mh_Qm σ (xs (i + 1)) (fun cs r => r = .inr (mh_nb cs (mh_need cs) cs.length))) r ∧ σ' = σ) r σ1 → (fun (r : Nat ⊕ Int32) (σ' : mh_Sg) => (mh_Qm σ (xs (i + 1)) (fun cs r => r = .inr (mh_nb cs (mh_need cs) cs.length))) r ∧ σ' = σ) r' σ2 → r = r' ∧ σ1 = σ2 := fun _ _ _ _ a b => ⟨mh_Qm_v (B := (fun cs r => r = .inr (mh_nb cs (mh_need cs) cs.length))) hG (fun _ _ _ m a b => a.trans b.symm) a.1 b.1, a.2.trans b.2.symm⟩
  have hc : ∀ (e : Nat) (σ1 : mh_Sg), (fun (r : Nat ⊕ Int32) (σ' : mh_Sg) => (mh_Qm σ (xs (i + 1)) (fun cs r => r = .inr (mh_nb cs (mh_need cs) cs.length))) r ∧ σ' = σ) (.inl e) σ1 → (fun e => e = 1) e := fun e σ1 a => mh_Qm_c (P := (fun e => e = 1)) rfl (fun cs e q => by show e = 1; first | (simp at q; done) | (simp at q; omega) | (simp at q; grind)) a.1
  have h2 : ∀ (r : Nat ⊕ Int32) (σ1 : mh_Sg), (fun (r : Nat ⊕ Int32) (σ' : mh_Sg) => (mh_Qm σ (xs (i + 1)) (fun cs r => r = .inr (mh_nb cs (mh_need cs) cs.length))) r ∧ σ' = σ) r σ1 → mh_St20 σ1 := fun r σ1 a => by rw [a.2]; exact h20
  have hfx : ∀ (e : Nat) (h' : mh_H), (fun e => e = 1) e → (fun (k : Nat) (h2 : mh_H) => if k = 1 then (some ((1 : Int32), h2)) else none) e h' = some (nI e, h') := fun e h' q => by
    have q : e = 1 := q
    subst q
    exact if_pos rfl
  have hf : ∀ (v : Int32) (h' : mh_H) (fl : Nat → Int64), h' o = some (.inl (1, 1, .inr (.inl fl))) → (fun (v3 : Int32) (h1 : mh_H) => (mh_sJ h1 o (0 : Int32) ((v3).toInt64)).bind fun h4 => some ((0 : Int32), h4)) v h' = some (0, mh_up h' o (.inl (1, 1, .inr (.inl (vp_updL fl 0 ((fun v => v.toInt64) v)))))) := fun v h' fl ho => by
    have s0 : ∀ w, mh_sJ h' o (0 : Int32) w = some (mh_up h' o (.inl (1, 1, .inr (.inl (vp_updL fl 0 w))))) := fun w => mh_sJ_eq (j := 0) ho (by omega) (by omega)
    show (mh_sJ h' o (0 : Int32) _).bind _ = _
    rw [s0, Option.bind_some]
  obtain ⟨k, hb, v, hd, σ1, F1, fs2, fs3, e1, e2, e3, e4, e5, e6, e7⟩ := mh_step (P := (fun e => e = 1)) (g := (fun v => v.toInt64)) hL hK hM hu hc (fun _ q => Or.inl q) h2 hfx hf
  have e1 : f_L_needed_e (ad 1289) (xs (i + 1)) o h = some (k, hb) := e1
  refine ⟨hd, σ1, F1, ?_, e7⟩
  unfold f_L_k16
  simp only [r1, Option.bind_some]
  rw [mh_b2_eq e1, mh_cal_eq e2, mh_b2_eq e3, mh_cal_eq e4, mh_b2_eq e5]
  exact mh_tail e6
set_option maxRecDepth 10000 in
theorem mh_L_k17 (hL : mh_LI h ad bd o σ F) (hi : i + 5 ≤ N) (hN : N ≤ 2560) : ∃ h' σ' F', f_L_k17 xs N (ad 1289) (bd 0) o (nI i) h = some h' ∧ mh_LI h' ad bd o σ' F' := by
  have r1 : mh_sc xs N (nI i + (1 : Int32)) = some (xs (i + 1)) := mh_scr hi hN (j := 1) (by omega)
  have r2 : mh_sc xs N (nI i + (2 : Int32)) = some (xs (i + 2)) := mh_scr hi hN (j := 2) (by omega)
  have hG := hL.2.1.gd
  have h20 := hL.2.2.2.2.2.2
  have hK : ∃ r h1 σ1, f_X11_same_e (ad 1289) (xs (i + 1)) (xs (i + 2)) h = some (r, h1) ∧ (fun (r : Nat ⊕ Int32) (σ' : mh_Sg) => (mh_Ssame σ (xs (i + 1)) (xs (i + 2))) r ∧ σ' = σ) r σ1 ∧ mh_CI h1 ad σ1 ∧ mh_frC ad h h1 := by
    obtain ⟨r, h1, e1, e2, e3, e4⟩ := mh_K_same hL.1 (xs (i + 1)) (xs (i + 2))
    exact ⟨r, h1, σ, e1, ⟨e2, rfl⟩, e3, e4⟩
  have hM : ∀ h F, mh_RI h bd σ F → ∃ r v h' σ' F', (fun h => f_X12_same_e (bd 0) (xs (i + 1)) (xs (i + 2)) h) h = some (v, h') ∧ (fun (r : Nat ⊕ Int32) (σ' : mh_Sg) => (mh_Ssame σ (xs (i + 1)) (xs (i + 2))) r ∧ σ' = σ) r σ' ∧ mh_an r v F' ∧ mh_RI h' bd σ' F' ∧ mh_frR bd h h' := fun h F hR => by
    obtain ⟨r, v, h1, F1, e1, e2, e3, e4, e5⟩ := mh_M_same hR (xs (i + 1)) (xs (i + 2))
    exact ⟨r, v, h1, σ, F1, e1, ⟨e2, rfl⟩, e3, e4, e5⟩
  have hu : ∀ (r r' : Nat ⊕ Int32) (σ1 σ2 : mh_Sg), (fun (r : Nat ⊕ Int32) (σ' : mh_Sg) => (mh_Ssame σ (xs (i + 1)) (xs (i + 2))) r ∧ σ' = σ) r σ1 → (fun (r : Nat ⊕ Int32) (σ' : mh_Sg) => (mh_Ssame σ (xs (i + 1)) (xs (i + 2))) r ∧ σ' = σ) r' σ2 → r = r' ∧ σ1 = σ2 := fun r r' _ _ a b => ⟨(fun a b => mh_Ssame_u a b) a.1 b.1, a.2.trans b.2.symm⟩
  have hc : ∀ (e : Nat) (σ1 : mh_Sg), (fun (r : Nat ⊕ Int32) (σ' : mh_Sg) => (mh_Ssame σ (xs (i + 1)) (xs (i + 2))) r ∧ σ' = σ) (.inl e) σ1 → (fun e => e = 1) e := fun e σ1 q => by show e = 1; first | (simp [mh_Ssame] at q; done) | (simp [mh_Ssame] at q; omega) | (simp [mh_Ssame] at q; grind)
  have h2 : ∀ (r : Nat ⊕ Int32) (σ1 : mh_Sg), (fun (r : Nat ⊕ Int32) (σ' : mh_Sg) => (mh_Ssame σ (xs (i + 1)) (xs (i + 2))) r ∧ σ' = σ) r σ1 → mh_St20 σ1 := fun r σ1 a => by rw [a.2]; exact h20
  have hfx : ∀ (e : Nat) (h' : mh_H), (fun e => e = 1) e → (fun (k : Nat) (h3 : mh_H) => if k = 1 then (some ((1 : Int32), h3)) else none) e h' = some (nI e, h') := fun e h' q => by
    have q : e = 1 := q
    subst q
    exact if_pos rfl
  have hf : ∀ (v : Int32) (h' : mh_H) (fl : Nat → Int64), h' o = some (.inl (1, 1, .inr (.inl fl))) → (fun (v4 : Int32) (h2 : mh_H) => if v4 = 0 then ( f_L_same_b16 o (0 : Int32) (0 : Int64) h2) else f_L_same_b16 o (0 : Int32) (1 : Int64) h2) v h' = some (0, mh_up h' o (.inl (1, 1, .inr (.inl (vp_updL fl 0 ((fun v => if v = 0 then 0 else 1) v)))))) := fun v h' fl ho => by
    have s0 : ∀ w, mh_sJ h' o (0 : Int32) w = some (mh_up h' o (.inl (1, 1, .inr (.inl (vp_updL fl 0 w))))) := fun w => mh_sJ_eq (j := 0) ho (by omega) (by omega)
    show (if v = 0 then _ else _) = some (0, mh_up h' o (.inl (1, 1, .inr (.inl (vp_updL fl 0 (if v = 0 then 0 else 1))))))
    by_cases v0 : v = 0
    · rw [if_pos v0, if_pos v0]
      unfold f_L_same_b16
      rw [s0, Option.bind_some]
    · rw [if_neg v0, if_neg v0]
      unfold f_L_same_b16
      rw [s0, Option.bind_some]
  obtain ⟨k, hb, v, hd, σ1, F1, fs2, fs3, e1, e2, e3, e4, e5, e6, e7⟩ := mh_step (P := (fun e => e = 1)) (g := (fun v => if v = 0 then 0 else 1)) hL hK hM hu hc (fun _ q => Or.inl q) h2 hfx hf
  have e1 : f_L_same_e (ad 1289) (xs (i + 1)) (xs (i + 2)) o h = some (k, hb) := e1
  refine ⟨hd, σ1, F1, ?_, e7⟩
  unfold f_L_k17
  simp only [r1, r2, Option.bind_some]
  rw [mh_b2_eq e1, mh_cal_eq e2, mh_b2_eq e3, mh_cal_eq e4, mh_b2_eq e5]
  exact mh_tailz e6
set_option maxRecDepth 10000 in
theorem mh_L_k18 (hL : mh_LI h ad bd o σ F) (hi : i + 5 ≤ N) (hN : N ≤ 2560) : ∃ h' σ' F', f_L_k18 xs N (ad 1289) (bd 0) o (nI i) h = some h' ∧ mh_LI h' ad bd o σ' F' := by
  have r1 : mh_sc xs N (nI i + (1 : Int32)) = some (xs (i + 1)) := mh_scr hi hN (j := 1) (by omega)
  have r2 : mh_sc xs N (nI i + (2 : Int32)) = some (xs (i + 2)) := mh_scr hi hN (j := 2) (by omega)
  have r3 : mh_sc xs N (nI i + (3 : Int32)) = some (xs (i + 3)) := mh_scr hi hN (j := 3) (by omega)
  have hG := hL.2.1.gd
  have h20 := hL.2.2.2.2.2.2
  have hK : ∃ r h1 σ1, f_X11_join_e (ad 1289) (xs (i + 1)) (xs (i + 2)) (xs (i + 3)) h = some (r, h1) ∧ (mh_Sjoin σ (xs (i + 1)) (xs (i + 2)) (xs (i + 3))) r σ1 ∧ mh_CI h1 ad σ1 ∧ mh_frC ad h h1 := mh_K_join hL.1 (xs (i + 1)) (xs (i + 2)) (xs (i + 3))
  have hM : ∀ h F, mh_RI h bd σ F → ∃ r v h' σ' F', (fun h => f_X12_join_e (bd 0) (xs (i + 1)) (xs (i + 2)) (xs (i + 3)) h) h = some (v, h') ∧ (mh_Sjoin σ (xs (i + 1)) (xs (i + 2)) (xs (i + 3))) r σ' ∧ mh_an r v F' ∧ mh_RI h' bd σ' F' ∧ mh_frR bd h h' := fun h F hR => mh_M_join hR (xs (i + 1)) (xs (i + 2)) (xs (i + 3))
  have hu : ∀ (r r' : Nat ⊕ Int32) (σ1 σ2 : mh_Sg), (mh_Sjoin σ (xs (i + 1)) (xs (i + 2)) (xs (i + 3))) r σ1 → (mh_Sjoin σ (xs (i + 1)) (xs (i + 2)) (xs (i + 3))) r' σ2 → r = r' ∧ σ1 = σ2 := fun _ _ _ _ a b => mh_Sjoin_u a b
  have hc : ∀ (e : Nat) (σ1 : mh_Sg), (mh_Sjoin σ (xs (i + 1)) (xs (i + 2)) (xs (i + 3))) (.inl e) σ1 → (fun e => e = 1) e := fun e σ1 q => by show e = 1; first | (simp [mh_Sjoin, mh_Sbec] at q; done) | (simp [mh_Sjoin, mh_Sbec] at q; omega) | (simp [mh_Sjoin, mh_Sbec] at q; grind)
  have h2 : ∀ (r : Nat ⊕ Int32) (σ1 : mh_Sg), (mh_Sjoin σ (xs (i + 1)) (xs (i + 2)) (xs (i + 3))) r σ1 → mh_St20 σ1 := fun r σ1 a => mh_20_join h20 a
  have hfx : ∀ (e : Nat) (h' : mh_H), (fun e => e = 1) e → (fun (k : Nat) (h2 : mh_H) => if k = 1 then (some ((1 : Int32), h2)) else none) e h' = some (nI e, h') := fun e h' q => by
    have q : e = 1 := q
    subst q
    exact if_pos rfl
  have hf : ∀ (v : Int32) (h' : mh_H) (fl : Nat → Int64), h' o = some (.inl (1, 1, .inr (.inl fl))) → (fun (v3 : Int32) (h1 : mh_H) => (mh_sJ h1 o (0 : Int32) ((v3).toInt64)).bind fun h4 => some ((0 : Int32), h4)) v h' = some (0, mh_up h' o (.inl (1, 1, .inr (.inl (vp_updL fl 0 ((fun v => v.toInt64) v)))))) := fun v h' fl ho => by
    have s0 : ∀ w, mh_sJ h' o (0 : Int32) w = some (mh_up h' o (.inl (1, 1, .inr (.inl (vp_updL fl 0 w))))) := fun w => mh_sJ_eq (j := 0) ho (by omega) (by omega)
    show (mh_sJ h' o (0 : Int32) _).bind _ = _
    rw [s0, Option.bind_some]
  obtain ⟨k, hb, v, hd, σ1, F1, fs2, fs3, e1, e2, e3, e4, e5, e6, e7⟩ := mh_step (P := (fun e => e = 1)) (g := (fun v => v.toInt64)) hL hK hM hu hc (fun _ q => Or.inl q) h2 hfx hf
  have e1 : f_L_join_e (ad 1289) (xs (i + 1)) (xs (i + 2)) (xs (i + 3)) o h = some (k, hb) := e1
  refine ⟨hd, σ1, F1, ?_, e7⟩
  unfold f_L_k18
  simp only [r1, r2, r3, Option.bind_some]
  rw [mh_b2_eq e1, mh_cal_eq e2, mh_b2_eq e3, mh_cal_eq e4, mh_b2_eq e5]
  exact mh_tail e6
set_option maxRecDepth 10000 in
theorem mh_L_k19 (hL : mh_LI h ad bd o σ F) (hi : i + 5 ≤ N) (hN : N ≤ 2560) : ∃ h' σ' F', f_L_k19 xs N (ad 1289) (bd 0) o (nI i) h = some h' ∧ mh_LI h' ad bd o σ' F' := by
  have r1 : mh_sc xs N (nI i + (1 : Int32)) = some (xs (i + 1)) := mh_scr hi hN (j := 1) (by omega)
  have r2 : mh_sc xs N (nI i + (2 : Int32)) = some (xs (i + 2)) := mh_scr hi hN (j := 2) (by omega)
  have r3 : mh_sc xs N (nI i + (3 : Int32)) = some (xs (i + 3)) := mh_scr hi hN (j := 3) (by omega)
  have hG := hL.2.1.gd
  have h20 := hL.2.2.2.2.2.2
  have hK : ∃ r h1 σ1, f_X11_part_e (ad 1289) (xs (i + 1)) (xs (i + 2)) (xs (i + 3)) h = some (r, h1) ∧ (mh_Spart σ (xs (i + 1)) (xs (i + 2)) (xs (i + 3))) r σ1 ∧ mh_CI h1 ad σ1 ∧ mh_frC ad h h1 := mh_K_part hL.1 (xs (i + 1)) (xs (i + 2)) (xs (i + 3))
  have hM : ∀ h F, mh_RI h bd σ F → ∃ r v h' σ' F', (fun h => f_X12_part_e (bd 0) (xs (i + 1)) (xs (i + 2)) (xs (i + 3)) h) h = some (v, h') ∧ (mh_Spart σ (xs (i + 1)) (xs (i + 2)) (xs (i + 3))) r σ' ∧ mh_an r v F' ∧ mh_RI h' bd σ' F' ∧ mh_frR bd h h' := fun h F hR => mh_M_part hR (xs (i + 1)) (xs (i + 2)) (xs (i + 3))
  have hu : ∀ (r r' : Nat ⊕ Int32) (σ1 σ2 : mh_Sg), (mh_Spart σ (xs (i + 1)) (xs (i + 2)) (xs (i + 3))) r σ1 → (mh_Spart σ (xs (i + 1)) (xs (i + 2)) (xs (i + 3))) r' σ2 → r = r' ∧ σ1 = σ2 := fun _ _ _ _ a b => mh_Spart_u a b
  have hc : ∀ (e : Nat) (σ1 : mh_Sg), (mh_Spart σ (xs (i + 1)) (xs (i + 2)) (xs (i + 3))) (.inl e) σ1 → (fun e => e = 1) e := fun e σ1 q => by show e = 1; first | (simp [mh_Spart, mh_Sbec] at q; done) | (simp [mh_Spart, mh_Sbec] at q; omega) | (simp [mh_Spart, mh_Sbec] at q; grind)
  have h2 : ∀ (r : Nat ⊕ Int32) (σ1 : mh_Sg), (mh_Spart σ (xs (i + 1)) (xs (i + 2)) (xs (i + 3))) r σ1 → mh_St20 σ1 := fun r σ1 a => mh_20_part h20 a
  have hfx : ∀ (e : Nat) (h' : mh_H), (fun e => e = 1) e → (fun (k : Nat) (h2 : mh_H) => if k = 1 then (some ((1 : Int32), h2)) else none) e h' = some (nI e, h') := fun e h' q => by
    have q : e = 1 := q
    subst q
    exact if_pos rfl
  have hf : ∀ (v : Int32) (h' : mh_H) (fl : Nat → Int64), h' o = some (.inl (1, 1, .inr (.inl fl))) → (fun (v3 : Int32) (h1 : mh_H) => (mh_sJ h1 o (0 : Int32) ((v3).toInt64)).bind fun h4 => some ((0 : Int32), h4)) v h' = some (0, mh_up h' o (.inl (1, 1, .inr (.inl (vp_updL fl 0 ((fun v => v.toInt64) v)))))) := fun v h' fl ho => by
    have s0 : ∀ w, mh_sJ h' o (0 : Int32) w = some (mh_up h' o (.inl (1, 1, .inr (.inl (vp_updL fl 0 w))))) := fun w => mh_sJ_eq (j := 0) ho (by omega) (by omega)
    show (mh_sJ h' o (0 : Int32) _).bind _ = _
    rw [s0, Option.bind_some]
  obtain ⟨k, hb, v, hd, σ1, F1, fs2, fs3, e1, e2, e3, e4, e5, e6, e7⟩ := mh_step (P := (fun e => e = 1)) (g := (fun v => v.toInt64)) hL hK hM hu hc (fun _ q => Or.inl q) h2 hfx hf
  have e1 : f_L_part_e (ad 1289) (xs (i + 1)) (xs (i + 2)) (xs (i + 3)) o h = some (k, hb) := e1
  refine ⟨hd, σ1, F1, ?_, e7⟩
  unfold f_L_k19
  simp only [r1, r2, r3, Option.bind_some]
  rw [mh_b2_eq e1, mh_cal_eq e2, mh_b2_eq e3, mh_cal_eq e4, mh_b2_eq e5]
  exact mh_tail e6
set_option maxRecDepth 10000 in
theorem mh_L_k20 (hL : mh_LI h ad bd o σ F) (hi : i + 5 ≤ N) (hN : N ≤ 2560) : ∃ h' σ' F', f_L_k20 xs N (ad 1289) (bd 0) o (nI i) h = some h' ∧ mh_LI h' ad bd o σ' F' := by
  have r1 : mh_sc xs N (nI i + (1 : Int32)) = some (xs (i + 1)) := mh_scr hi hN (j := 1) (by omega)
  have r2 : mh_sc xs N (nI i + (2 : Int32)) = some (xs (i + 2)) := mh_scr hi hN (j := 2) (by omega)
  have r3 : mh_sc xs N (nI i + (3 : Int32)) = some (xs (i + 3)) := mh_scr hi hN (j := 3) (by omega)
  have hG := hL.2.1.gd
  have h20 := hL.2.2.2.2.2.2
  have hK : ∃ r h1 σ1, f_X11_factor_e (ad 1289) (xs (i + 1)) (xs (i + 2)) (xs (i + 3)) h = some (r, h1) ∧ (mh_Sfac σ (xs (i + 1)) (xs (i + 2)) (xs (i + 3))) r σ1 ∧ mh_CI h1 ad σ1 ∧ mh_frC ad h h1 := mh_K_factor hL.1 (xs (i + 1)) (xs (i + 2)) (xs (i + 3))
  have hM : ∀ h F, mh_RI h bd σ F → ∃ r v h' σ' F', (fun h => f_X12_factor_e (bd 0) (xs (i + 1)) (xs (i + 2)) (xs (i + 3)) h) h = some (v, h') ∧ (mh_Sfac σ (xs (i + 1)) (xs (i + 2)) (xs (i + 3))) r σ' ∧ mh_an r v F' ∧ mh_RI h' bd σ' F' ∧ mh_frR bd h h' := fun h F hR => mh_M_factor hR (xs (i + 1)) (xs (i + 2)) (xs (i + 3))
  have hu : ∀ (r r' : Nat ⊕ Int32) (σ1 σ2 : mh_Sg), (mh_Sfac σ (xs (i + 1)) (xs (i + 2)) (xs (i + 3))) r σ1 → (mh_Sfac σ (xs (i + 1)) (xs (i + 2)) (xs (i + 3))) r' σ2 → r = r' ∧ σ1 = σ2 := fun _ _ _ _ a b => mh_Sfac_u a b
  have hc : ∀ (e : Nat) (σ1 : mh_Sg), (mh_Sfac σ (xs (i + 1)) (xs (i + 2)) (xs (i + 3))) (.inl e) σ1 → (fun e => e = 1 ∨ e = 2) e := fun e σ1 q => by show e = 1 ∨ e = 2; first | (simp [mh_Sfac, mh_Sbec] at q; done) | (simp [mh_Sfac, mh_Sbec] at q; omega) | (simp [mh_Sfac, mh_Sbec] at q; grind)
  have h2 : ∀ (r : Nat ⊕ Int32) (σ1 : mh_Sg), (mh_Sfac σ (xs (i + 1)) (xs (i + 2)) (xs (i + 3))) r σ1 → mh_St20 σ1 := fun r σ1 a => mh_20_fac h20 a
  have hfx : ∀ (e : Nat) (h' : mh_H), (fun e => e = 1 ∨ e = 2) e → (fun (k : Nat) (h2 : mh_H) => if k = 1 then (some ((1 : Int32), h2)) else if k = 2 then (some ((2 : Int32), h2)) else none) e h' = some (nI e, h') := fun e h' q => by
    have q : e = 1 ∨ e = 2 := q
    rcases q with rfl | rfl
    · exact if_pos rfl
    · exact (if_neg (by decide)).trans (if_pos rfl)
  have hf : ∀ (v : Int32) (h' : mh_H) (fl : Nat → Int64), h' o = some (.inl (1, 1, .inr (.inl fl))) → (fun (v3 : Int32) (h1 : mh_H) => (mh_sJ h1 o (0 : Int32) ((v3).toInt64)).bind fun h4 => some ((0 : Int32), h4)) v h' = some (0, mh_up h' o (.inl (1, 1, .inr (.inl (vp_updL fl 0 ((fun v => v.toInt64) v)))))) := fun v h' fl ho => by
    have s0 : ∀ w, mh_sJ h' o (0 : Int32) w = some (mh_up h' o (.inl (1, 1, .inr (.inl (vp_updL fl 0 w))))) := fun w => mh_sJ_eq (j := 0) ho (by omega) (by omega)
    show (mh_sJ h' o (0 : Int32) _).bind _ = _
    rw [s0, Option.bind_some]
  obtain ⟨k, hb, v, hd, σ1, F1, fs2, fs3, e1, e2, e3, e4, e5, e6, e7⟩ := mh_step (P := (fun e => e = 1 ∨ e = 2)) (g := (fun v => v.toInt64)) hL hK hM hu hc (fun _ q => q) h2 hfx hf
  have e1 : f_L_factor_e (ad 1289) (xs (i + 1)) (xs (i + 2)) (xs (i + 3)) o h = some (k, hb) := e1
  refine ⟨hd, σ1, F1, ?_, e7⟩
  unfold f_L_k20
  simp only [r1, r2, r3, Option.bind_some]
  rw [mh_b2_eq e1, mh_cal_eq e2, mh_b2_eq e3, mh_cal_eq e4, mh_b2_eq e5]
  exact mh_tail e6
set_option maxRecDepth 10000 in
theorem mh_L_k21 (hL : mh_LI h ad bd o σ F) (hi : i + 5 ≤ N) (hN : N ≤ 2560) : ∃ h' σ' F', f_L_k21 xs N (ad 1289) (bd 0) o (nI i) h = some h' ∧ mh_LI h' ad bd o σ' F' := by
  have r1 : mh_sc xs N (nI i + (1 : Int32)) = some (xs (i + 1)) := mh_scr hi hN (j := 1) (by omega)
  have r2 : mh_sc xs N (nI i + (2 : Int32)) = some (xs (i + 2)) := mh_scr hi hN (j := 2) (by omega)
  have hG := hL.2.1.gd
  have h20 := hL.2.2.2.2.2.2
  have hK : ∃ r h1 σ1, f_X11_ways_e (ad 1289) (xs (i + 1)) (xs (i + 2)) h = some (r, h1) ∧ (fun (r : Nat ⊕ Int64) (σ' : mh_Sg) => (mh_Qm σ (xs (i + 1)) (mh_Bways (xs (i + 2)))) r ∧ σ' = σ) r σ1 ∧ mh_CI h1 ad σ1 ∧ mh_frC ad h h1 := by
    obtain ⟨r, h1, e1, e2, e3, e4⟩ := mh_K_ways hL.1 (xs (i + 1)) (xs (i + 2))
    exact ⟨r, h1, σ, e1, ⟨e2, rfl⟩, e3, e4⟩
  have hM : ∀ h F, mh_RI h bd σ F → ∃ r v h' σ' F', (fun h => f_X12_ways_e (bd 0) (xs (i + 1)) (xs (i + 2)) h) h = some (v, h') ∧ (fun (r : Nat ⊕ Int64) (σ' : mh_Sg) => (mh_Qm σ (xs (i + 1)) (mh_Bways (xs (i + 2)))) r ∧ σ' = σ) r σ' ∧ mh_an r v F' ∧ mh_RI h' bd σ' F' ∧ mh_frR bd h h' := fun h F hR => by
    obtain ⟨r, v, h1, F1, e1, e2, e3, e4, e5⟩ := mh_M_ways hR (xs (i + 1)) (xs (i + 2))
    exact ⟨r, v, h1, σ, F1, e1, ⟨e2, rfl⟩, e3, e4, e5⟩
  have hu : ∀ (r r' : Nat ⊕ Int64) (σ1 σ2 : mh_Sg), (fun (r : Nat ⊕ Int64) (σ' : mh_Sg) => (mh_Qm σ (xs (i + 1)) (mh_Bways (xs (i + 2)))) r ∧ σ' = σ) r σ1 → (fun (r : Nat ⊕ Int64) (σ' : mh_Sg) => (mh_Qm σ (xs (i + 1)) (mh_Bways (xs (i + 2)))) r ∧ σ' = σ) r' σ2 → r = r' ∧ σ1 = σ2 := fun _ _ _ _ a b => ⟨mh_Qm_v (B := (mh_Bways (xs (i + 2)))) hG (fun _ _ _ m a b => mh_Bways_u a b) a.1 b.1, a.2.trans b.2.symm⟩
  have hc : ∀ (e : Nat) (σ1 : mh_Sg), (fun (r : Nat ⊕ Int64) (σ' : mh_Sg) => (mh_Qm σ (xs (i + 1)) (mh_Bways (xs (i + 2)))) r ∧ σ' = σ) (.inl e) σ1 → (fun e => e = 1 ∨ e = 2) e := fun e σ1 a => mh_Qm_c (P := (fun e => e = 1 ∨ e = 2)) (Or.inl rfl) (fun cs e q => by show e = 1 ∨ e = 2; first | (simp [mh_Bways] at q; done) | (simp [mh_Bways] at q; omega) | (simp [mh_Bways] at q; grind)) a.1
  have h2 : ∀ (r : Nat ⊕ Int64) (σ1 : mh_Sg), (fun (r : Nat ⊕ Int64) (σ' : mh_Sg) => (mh_Qm σ (xs (i + 1)) (mh_Bways (xs (i + 2)))) r ∧ σ' = σ) r σ1 → mh_St20 σ1 := fun r σ1 a => by rw [a.2]; exact h20
  have hfx : ∀ (e : Nat) (h' : mh_H), (fun e => e = 1 ∨ e = 2) e → (fun (k : Nat) (h2 : mh_H) => if k = 1 then (some ((1 : Int32), h2)) else if k = 2 then (some ((2 : Int32), h2)) else none) e h' = some (nI e, h') := fun e h' q => by
    have q : e = 1 ∨ e = 2 := q
    rcases q with rfl | rfl
    · exact if_pos rfl
    · exact (if_neg (by decide)).trans (if_pos rfl)
  have hf : ∀ (v : Int64) (h' : mh_H) (fl : Nat → Int64), h' o = some (.inl (1, 1, .inr (.inl fl))) → (fun (w3 : Int64) (h1 : mh_H) => (mh_sJ h1 o (0 : Int32) w3).bind fun h4 => some ((0 : Int32), h4)) v h' = some (0, mh_up h' o (.inl (1, 1, .inr (.inl (vp_updL fl 0 ((fun v => v) v)))))) := fun v h' fl ho => by
    have s0 : ∀ w, mh_sJ h' o (0 : Int32) w = some (mh_up h' o (.inl (1, 1, .inr (.inl (vp_updL fl 0 w))))) := fun w => mh_sJ_eq (j := 0) ho (by omega) (by omega)
    show (mh_sJ h' o (0 : Int32) _).bind _ = _
    rw [s0, Option.bind_some]
  obtain ⟨k, hb, v, hd, σ1, F1, fs2, fs3, e1, e2, e3, e4, e5, e6, e7⟩ := mh_step (P := (fun e => e = 1 ∨ e = 2)) (g := (fun v => v)) hL hK hM hu hc (fun _ q => q) h2 hfx hf
  have e1 : f_L_ways_e (ad 1289) (xs (i + 1)) (xs (i + 2)) o h = some (k, hb) := e1
  refine ⟨hd, σ1, F1, ?_, e7⟩
  unfold f_L_k21
  simp only [r1, r2, Option.bind_some]
  rw [mh_b2_eq e1, mh_cal_eq e2, mh_b2_eq e3, mh_cal_eq e4, mh_b2_eq e5]
  exact mh_tail e6
set_option maxRecDepth 10000 in
theorem mh_L_k22 (hL : mh_LI h ad bd o σ F) (hi : i + 5 ≤ N) (hN : N ≤ 2560) : ∃ h' σ' F', f_L_k22 xs N (ad 1289) (bd 0) o (nI i) h = some h' ∧ mh_LI h' ad bd o σ' F' := by
  have r1 : mh_sc xs N (nI i + (1 : Int32)) = some (xs (i + 1)) := mh_scr hi hN (j := 1) (by omega)
  have r2 : mh_sc xs N (nI i + (2 : Int32)) = some (xs (i + 2)) := mh_scr hi hN (j := 2) (by omega)
  have r3 : mh_sc xs N (nI i + (3 : Int32)) = some (xs (i + 3)) := mh_scr hi hN (j := 3) (by omega)
  have r4 : mh_sc xs N (nI i + (4 : Int32)) = some (xs (i + 4)) := mh_scr hi hN (j := 4) (by omega)
  have hG := hL.2.1.gd
  have h20 := hL.2.2.2.2.2.2
  have hK : ∃ r h1 σ1, f_X11_of_e (ad 1289) (xs (i + 1)) (xs (i + 2)) ((((xs (i + 3))).toInt64 <<< (((32 : Int32)).toInt64 &&& 63)) ||| (((xs (i + 4))).toInt64 &&& (4294967295 : Int64))) h = some (r, h1) ∧ (mh_Sof σ (xs (i + 1)) (xs (i + 2)) ((((xs (i + 3))).toInt64 <<< (((32 : Int32)).toInt64 &&& 63)) ||| (((xs (i + 4))).toInt64 &&& (4294967295 : Int64)))) r σ1 ∧ mh_CI h1 ad σ1 ∧ mh_frC ad h h1 := mh_K_of hL.1 (xs (i + 1)) (xs (i + 2)) ((((xs (i + 3))).toInt64 <<< (((32 : Int32)).toInt64 &&& 63)) ||| (((xs (i + 4))).toInt64 &&& (4294967295 : Int64)))
  have hM : ∀ h F, mh_RI h bd σ F → ∃ r v h' σ' F', (fun h => f_X12_of_e (bd 0) (xs (i + 1)) (xs (i + 2)) ((((xs (i + 3))).toInt64 <<< (((32 : Int32)).toInt64 &&& 63)) ||| (((xs (i + 4))).toInt64 &&& (4294967295 : Int64))) h) h = some (v, h') ∧ (mh_Sof σ (xs (i + 1)) (xs (i + 2)) ((((xs (i + 3))).toInt64 <<< (((32 : Int32)).toInt64 &&& 63)) ||| (((xs (i + 4))).toInt64 &&& (4294967295 : Int64)))) r σ' ∧ mh_an r v F' ∧ mh_RI h' bd σ' F' ∧ mh_frR bd h h' := fun h F hR => mh_M_of hR (xs (i + 1)) (xs (i + 2)) ((((xs (i + 3))).toInt64 <<< (((32 : Int32)).toInt64 &&& 63)) ||| (((xs (i + 4))).toInt64 &&& (4294967295 : Int64)))
  have hu : ∀ (r r' : Nat ⊕ Int32) (σ1 σ2 : mh_Sg), (mh_Sof σ (xs (i + 1)) (xs (i + 2)) ((((xs (i + 3))).toInt64 <<< (((32 : Int32)).toInt64 &&& 63)) ||| (((xs (i + 4))).toInt64 &&& (4294967295 : Int64)))) r σ1 → (mh_Sof σ (xs (i + 1)) (xs (i + 2)) ((((xs (i + 3))).toInt64 <<< (((32 : Int32)).toInt64 &&& 63)) ||| (((xs (i + 4))).toInt64 &&& (4294967295 : Int64)))) r' σ2 → r = r' ∧ σ1 = σ2 := fun _ _ _ _ a b => mh_Sof_u a b
  have hc : ∀ (e : Nat) (σ1 : mh_Sg), (mh_Sof σ (xs (i + 1)) (xs (i + 2)) ((((xs (i + 3))).toInt64 <<< (((32 : Int32)).toInt64 &&& 63)) ||| (((xs (i + 4))).toInt64 &&& (4294967295 : Int64)))) (.inl e) σ1 → (fun e => e = 1 ∨ e = 2) e := fun e σ1 q => by show e = 1 ∨ e = 2; first | (simp [mh_Sof] at q; done) | (simp [mh_Sof] at q; omega) | (simp [mh_Sof] at q; grind)
  have h2 : ∀ (r : Nat ⊕ Int32) (σ1 : mh_Sg), (mh_Sof σ (xs (i + 1)) (xs (i + 2)) ((((xs (i + 3))).toInt64 <<< (((32 : Int32)).toInt64 &&& 63)) ||| (((xs (i + 4))).toInt64 &&& (4294967295 : Int64)))) r σ1 → mh_St20 σ1 := fun r σ1 a => mh_20_of h20 a
  have hfx : ∀ (e : Nat) (h' : mh_H), (fun e => e = 1 ∨ e = 2) e → (fun (k : Nat) (h3 : mh_H) => if k = 1 then (some ((1 : Int32), h3)) else if k = 2 then (some ((2 : Int32), h3)) else none) e h' = some (nI e, h') := fun e h' q => by
    have q : e = 1 ∨ e = 2 := q
    rcases q with rfl | rfl
    · exact if_pos rfl
    · exact (if_neg (by decide)).trans (if_pos rfl)
  have hf : ∀ (v : Int32) (h' : mh_H) (fl : Nat → Int64), h' o = some (.inl (1, 1, .inr (.inl fl))) → (fun (v4 : Int32) (h2 : mh_H) => if v4 = 0 then ( f_L_of_b18 o (0 : Int32) (0 : Int64) h2) else f_L_of_b18 o (0 : Int32) (1 : Int64) h2) v h' = some (0, mh_up h' o (.inl (1, 1, .inr (.inl (vp_updL fl 0 ((fun v => if v = 0 then 0 else 1) v)))))) := fun v h' fl ho => by
    have s0 : ∀ w, mh_sJ h' o (0 : Int32) w = some (mh_up h' o (.inl (1, 1, .inr (.inl (vp_updL fl 0 w))))) := fun w => mh_sJ_eq (j := 0) ho (by omega) (by omega)
    show (if v = 0 then _ else _) = some (0, mh_up h' o (.inl (1, 1, .inr (.inl (vp_updL fl 0 (if v = 0 then 0 else 1))))))
    by_cases v0 : v = 0
    · rw [if_pos v0, if_pos v0]
      unfold f_L_of_b18
      rw [s0, Option.bind_some]
    · rw [if_neg v0, if_neg v0]
      unfold f_L_of_b18
      rw [s0, Option.bind_some]
  obtain ⟨k, hb, v, hd, σ1, F1, fs2, fs3, e1, e2, e3, e4, e5, e6, e7⟩ := mh_step (P := (fun e => e = 1 ∨ e = 2)) (g := (fun v => if v = 0 then 0 else 1)) hL hK hM hu hc (fun _ q => q) h2 hfx hf
  have e1 : f_L_of_e (ad 1289) (xs (i + 1)) (xs (i + 2)) ((((xs (i + 3))).toInt64 <<< (((32 : Int32)).toInt64 &&& 63)) ||| (((xs (i + 4))).toInt64 &&& (4294967295 : Int64))) o h = some (k, hb) := e1
  refine ⟨hd, σ1, F1, ?_, e7⟩
  unfold f_L_k22
  simp only [r1, r2, r3, r4, Option.bind_some]
  rw [mh_b2_eq e1, mh_cal_eq e2, mh_b2_eq e3, mh_cal_eq e4, mh_b2_eq e5]
  exact mh_tailz e6
set_option maxRecDepth 10000 in
theorem mh_L_k23 (hL : mh_LI h ad bd o σ F) (hi : i + 5 ≤ N) (hN : N ≤ 2560) : ∃ h' σ' F', f_L_k23 xs N (ad 1289) (bd 0) o (nI i) h = some h' ∧ mh_LI h' ad bd o σ' F' := by
  have r1 : mh_sc xs N (nI i + (1 : Int32)) = some (xs (i + 1)) := mh_scr hi hN (j := 1) (by omega)
  have hG := hL.2.1.gd
  have h20 := hL.2.2.2.2.2.2
  have hK : ∃ r h1 σ1, f_X11_hand_e (ad 1289) (xs (i + 1)) h = some (r, h1) ∧ (fun (r : Nat ⊕ Int32) (σ' : mh_Sg) => (fun r => mh_Bhand σ.2.2.2 (xs (i + 1)) (fun _ n i => r = .inr (nI (n.getD i 0))) (r = .inl 1)) r ∧ σ' = σ) r σ1 ∧ mh_CI h1 ad σ1 ∧ mh_frC ad h h1 := by
    obtain ⟨r, e1, e2⟩ := mh_K_hand hL.1 (xs (i + 1))
    exact ⟨r, h, σ, e1, ⟨e2, rfl⟩, hL.1, mh_frC.rfl⟩
  have hM : ∀ h F, mh_RI h bd σ F → ∃ r v h' σ' F', (fun h => f_X12_hand_e (bd 0) (xs (i + 1)) h) h = some (v, h') ∧ (fun (r : Nat ⊕ Int32) (σ' : mh_Sg) => (fun r => mh_Bhand σ.2.2.2 (xs (i + 1)) (fun _ n i => r = .inr (nI (n.getD i 0))) (r = .inl 1)) r ∧ σ' = σ) r σ' ∧ mh_an r v F' ∧ mh_RI h' bd σ' F' ∧ mh_frR bd h h' := fun h F hR => by
    obtain ⟨r, v, h1, F1, e1, e2, e3, e4, e5⟩ := mh_M_hand hR (xs (i + 1))
    exact ⟨r, v, h1, σ, F1, e1, ⟨e2, rfl⟩, e3, e4, e5⟩
  have hu : ∀ (r r' : Nat ⊕ Int32) (σ1 σ2 : mh_Sg), (fun (r : Nat ⊕ Int32) (σ' : mh_Sg) => (fun r => mh_Bhand σ.2.2.2 (xs (i + 1)) (fun _ n i => r = .inr (nI (n.getD i 0))) (r = .inl 1)) r ∧ σ' = σ) r σ1 → (fun (r : Nat ⊕ Int32) (σ' : mh_Sg) => (fun r => mh_Bhand σ.2.2.2 (xs (i + 1)) (fun _ n i => r = .inr (nI (n.getD i 0))) (r = .inl 1)) r ∧ σ' = σ) r' σ2 → r = r' ∧ σ1 = σ2 := fun r r' _ _ a b => ⟨(fun a b => mh_Bhand_u hG.2 (fun _ _ _ c d => c.trans d.symm) (fun c d => c.trans d.symm) a b) a.1 b.1, a.2.trans b.2.symm⟩
  have hc : ∀ (e : Nat) (σ1 : mh_Sg), (fun (r : Nat ⊕ Int32) (σ' : mh_Sg) => (fun r => mh_Bhand σ.2.2.2 (xs (i + 1)) (fun _ n i => r = .inr (nI (n.getD i 0))) (r = .inl 1)) r ∧ σ' = σ) (.inl e) σ1 → (fun e => e = 1) e := fun e σ1 q => by show e = 1; first | (simp [mh_Bhand] at q; done) | (simp [mh_Bhand] at q; omega) | (simp [mh_Bhand] at q; grind)
  have h2 : ∀ (r : Nat ⊕ Int32) (σ1 : mh_Sg), (fun (r : Nat ⊕ Int32) (σ' : mh_Sg) => (fun r => mh_Bhand σ.2.2.2 (xs (i + 1)) (fun _ n i => r = .inr (nI (n.getD i 0))) (r = .inl 1)) r ∧ σ' = σ) r σ1 → mh_St20 σ1 := fun r σ1 a => by rw [a.2]; exact h20
  have hfx : ∀ (e : Nat) (h' : mh_H), (fun e => e = 1) e → (fun (k : Nat) (h2 : mh_H) => if k = 1 then (some ((1 : Int32), h2)) else none) e h' = some (nI e, h') := fun e h' q => by
    have q : e = 1 := q
    subst q
    exact if_pos rfl
  have hf : ∀ (v : Int32) (h' : mh_H) (fl : Nat → Int64), h' o = some (.inl (1, 1, .inr (.inl fl))) → (fun (v3 : Int32) (h1 : mh_H) => (mh_sJ h1 o (0 : Int32) ((v3).toInt64)).bind fun h4 => some ((0 : Int32), h4)) v h' = some (0, mh_up h' o (.inl (1, 1, .inr (.inl (vp_updL fl 0 ((fun v => v.toInt64) v)))))) := fun v h' fl ho => by
    have s0 : ∀ w, mh_sJ h' o (0 : Int32) w = some (mh_up h' o (.inl (1, 1, .inr (.inl (vp_updL fl 0 w))))) := fun w => mh_sJ_eq (j := 0) ho (by omega) (by omega)
    show (mh_sJ h' o (0 : Int32) _).bind _ = _
    rw [s0, Option.bind_some]
  obtain ⟨k, hb, v, hd, σ1, F1, fs2, fs3, e1, e2, e3, e4, e5, e6, e7⟩ := mh_step (P := (fun e => e = 1)) (g := (fun v => v.toInt64)) hL hK hM hu hc (fun _ q => Or.inl q) h2 hfx hf
  have e1 : f_L_hand_e (ad 1289) (xs (i + 1)) o h = some (k, hb) := e1
  refine ⟨hd, σ1, F1, ?_, e7⟩
  unfold f_L_k23
  simp only [r1, Option.bind_some]
  rw [mh_b2_eq e1, mh_cal_eq e2, mh_b2_eq e3, mh_cal_eq e4, mh_b2_eq e5]
  exact mh_tail e6
set_option maxRecDepth 10000 in
theorem mh_L_k24 (hL : mh_LI h ad bd o σ F) (hi : i + 5 ≤ N) (hN : N ≤ 2560) : ∃ h' σ' F', f_L_k24 xs N (ad 1289) (bd 0) o (nI i) h = some h' ∧ mh_LI h' ad bd o σ' F' := by
  have r1 : mh_sc xs N (nI i + (1 : Int32)) = some (xs (i + 1)) := mh_scr hi hN (j := 1) (by omega)
  have r2 : mh_sc xs N (nI i + (2 : Int32)) = some (xs (i + 2)) := mh_scr hi hN (j := 2) (by omega)
  have hG := hL.2.1.gd
  have h20 := hL.2.2.2.2.2.2
  have hK : ∃ r h1 σ1, f_X11_put_e (ad 1289) (xs (i + 1)) (xs (i + 2)) h = some (r, h1) ∧ (mh_Sput σ (xs (i + 1)) (xs (i + 2))) r σ1 ∧ mh_CI h1 ad σ1 ∧ mh_frC ad h h1 := mh_K_put hL.1 (xs (i + 1)) (xs (i + 2))
  have hM : ∀ h F, mh_RI h bd σ F → ∃ r v h' σ' F', (fun h => f_X12_put_e (bd 0) (xs (i + 1)) (xs (i + 2)) h) h = some (v, h') ∧ (mh_Sput σ (xs (i + 1)) (xs (i + 2))) r σ' ∧ mh_an r v F' ∧ mh_RI h' bd σ' F' ∧ mh_frR bd h h' := fun h F hR => mh_M_put hR (xs (i + 1)) (xs (i + 2))
  have hu : ∀ (r r' : Nat ⊕ Int32) (σ1 σ2 : mh_Sg), (mh_Sput σ (xs (i + 1)) (xs (i + 2))) r σ1 → (mh_Sput σ (xs (i + 1)) (xs (i + 2))) r' σ2 → r = r' ∧ σ1 = σ2 := fun _ _ _ _ a b => mh_Sput_u hG a b
  have hc : ∀ (e : Nat) (σ1 : mh_Sg), (mh_Sput σ (xs (i + 1)) (xs (i + 2))) (.inl e) σ1 → (fun e => e = 1 ∨ e = 2) e := fun e σ1 q => by show e = 1 ∨ e = 2; first | (simp [mh_Sput, mh_Bhand] at q; done) | (simp [mh_Sput, mh_Bhand] at q; omega) | (simp [mh_Sput, mh_Bhand] at q; grind)
  have h2 : ∀ (r : Nat ⊕ Int32) (σ1 : mh_Sg), (mh_Sput σ (xs (i + 1)) (xs (i + 2))) r σ1 → mh_St20 σ1 := fun r σ1 a => mh_20_put h20 a
  have hfx : ∀ (e : Nat) (h' : mh_H), (fun e => e = 1 ∨ e = 2) e → (fun (k : Nat) (h2 : mh_H) => if k = 1 then (some ((1 : Int32), h2)) else if k = 2 then (some ((2 : Int32), h2)) else none) e h' = some (nI e, h') := fun e h' q => by
    have q : e = 1 ∨ e = 2 := q
    rcases q with rfl | rfl
    · exact if_pos rfl
    · exact (if_neg (by decide)).trans (if_pos rfl)
  have hf : ∀ (v : Int32) (h' : mh_H) (fl : Nat → Int64), h' o = some (.inl (1, 1, .inr (.inl fl))) → (fun (v3 : Int32) (h1 : mh_H) => (mh_sJ h1 o (0 : Int32) ((v3).toInt64)).bind fun h4 => some ((0 : Int32), h4)) v h' = some (0, mh_up h' o (.inl (1, 1, .inr (.inl (vp_updL fl 0 ((fun v => v.toInt64) v)))))) := fun v h' fl ho => by
    have s0 : ∀ w, mh_sJ h' o (0 : Int32) w = some (mh_up h' o (.inl (1, 1, .inr (.inl (vp_updL fl 0 w))))) := fun w => mh_sJ_eq (j := 0) ho (by omega) (by omega)
    show (mh_sJ h' o (0 : Int32) _).bind _ = _
    rw [s0, Option.bind_some]
  obtain ⟨k, hb, v, hd, σ1, F1, fs2, fs3, e1, e2, e3, e4, e5, e6, e7⟩ := mh_step (P := (fun e => e = 1 ∨ e = 2)) (g := (fun v => v.toInt64)) hL hK hM hu hc (fun _ q => q) h2 hfx hf
  have e1 : f_L_put_e (ad 1289) (xs (i + 1)) (xs (i + 2)) o h = some (k, hb) := e1
  refine ⟨hd, σ1, F1, ?_, e7⟩
  unfold f_L_k24
  simp only [r1, r2, Option.bind_some]
  rw [mh_b2_eq e1, mh_cal_eq e2, mh_b2_eq e3, mh_cal_eq e4, mh_b2_eq e5]
  exact mh_tail e6
set_option maxRecDepth 10000 in
theorem mh_L_k25 (hL : mh_LI h ad bd o σ F) (hi : i + 5 ≤ N) (hN : N ≤ 2560) : ∃ h' σ' F', f_L_k25 xs N (ad 1289) (bd 0) o (nI i) h = some h' ∧ mh_LI h' ad bd o σ' F' := by
  have hG := hL.2.1.gd
  have h20 := hL.2.2.2.2.2.2
  have hK : ∃ r h1 σ1, f_X11_rank_e (ad 1289)  h = some (r, h1) ∧ (fun (r : Nat ⊕ Int64) (σ' : mh_Sg) => (mh_Srank σ.2.2.2) r ∧ σ' = σ) r σ1 ∧ mh_CI h1 ad σ1 ∧ mh_frC ad h h1 := by
    obtain ⟨r, h1, e1, e2, e3, e4⟩ := mh_K_rank hL.1 
    exact ⟨r, h1, σ, e1, ⟨e2, rfl⟩, e3, e4⟩
  have hM : ∀ h F, mh_RI h bd σ F → ∃ r v h' σ' F', (fun h => f_X12_rank_e (bd 0)  h) h = some (v, h') ∧ (fun (r : Nat ⊕ Int64) (σ' : mh_Sg) => (mh_Srank σ.2.2.2) r ∧ σ' = σ) r σ' ∧ mh_an r v F' ∧ mh_RI h' bd σ' F' ∧ mh_frR bd h h' := fun h F hR => by
    obtain ⟨r, v, h1, F1, e1, e2, e3, e4, e5⟩ := mh_M_rank hR 
    exact ⟨r, v, h1, σ, F1, e1, ⟨e2, rfl⟩, e3, e4, e5⟩
  have hu : ∀ (r r' : Nat ⊕ Int64) (σ1 σ2 : mh_Sg), (fun (r : Nat ⊕ Int64) (σ' : mh_Sg) => (mh_Srank σ.2.2.2) r ∧ σ' = σ) r σ1 → (fun (r : Nat ⊕ Int64) (σ' : mh_Sg) => (mh_Srank σ.2.2.2) r ∧ σ' = σ) r' σ2 → r = r' ∧ σ1 = σ2 := fun r r' _ _ a b => ⟨(fun a b => mh_Srank_u a b) a.1 b.1, a.2.trans b.2.symm⟩
  have hc : ∀ (e : Nat) (σ1 : mh_Sg), (fun (r : Nat ⊕ Int64) (σ' : mh_Sg) => (mh_Srank σ.2.2.2) r ∧ σ' = σ) (.inl e) σ1 → (fun e => e = 1) e := fun e σ1 q => by show e = 1; first | (simp [mh_Srank] at q; done) | (simp [mh_Srank] at q; omega) | (simp [mh_Srank] at q; grind)
  have h2 : ∀ (r : Nat ⊕ Int64) (σ1 : mh_Sg), (fun (r : Nat ⊕ Int64) (σ' : mh_Sg) => (mh_Srank σ.2.2.2) r ∧ σ' = σ) r σ1 → mh_St20 σ1 := fun r σ1 a => by rw [a.2]; exact h20
  have hfx : ∀ (e : Nat) (h' : mh_H), (fun e => e = 1) e → (fun (k : Nat) (h2 : mh_H) => if k = 1 then (some ((1 : Int32), h2)) else none) e h' = some (nI e, h') := fun e h' q => by
    have q : e = 1 := q
    subst q
    exact if_pos rfl
  have hf : ∀ (v : Int64) (h' : mh_H) (fl : Nat → Int64), h' o = some (.inl (1, 1, .inr (.inl fl))) → (fun (w3 : Int64) (h1 : mh_H) => (mh_sJ h1 o (0 : Int32) w3).bind fun h4 => some ((0 : Int32), h4)) v h' = some (0, mh_up h' o (.inl (1, 1, .inr (.inl (vp_updL fl 0 ((fun v => v) v)))))) := fun v h' fl ho => by
    have s0 : ∀ w, mh_sJ h' o (0 : Int32) w = some (mh_up h' o (.inl (1, 1, .inr (.inl (vp_updL fl 0 w))))) := fun w => mh_sJ_eq (j := 0) ho (by omega) (by omega)
    show (mh_sJ h' o (0 : Int32) _).bind _ = _
    rw [s0, Option.bind_some]
  obtain ⟨k, hb, v, hd, σ1, F1, fs2, fs3, e1, e2, e3, e4, e5, e6, e7⟩ := mh_step (P := (fun e => e = 1)) (g := (fun v => v)) hL hK hM hu hc (fun _ q => Or.inl q) h2 hfx hf
  have e1 : f_L_rank_e (ad 1289) o h = some (k, hb) := e1
  refine ⟨hd, σ1, F1, ?_, e7⟩
  unfold f_L_k25
  rw [mh_b2_eq e1, mh_cal_eq e2, mh_b2_eq e3, mh_cal_eq e4, mh_b2_eq e5]
  exact mh_tail e6
set_option maxRecDepth 10000 in
theorem mh_L_k26 (hL : mh_LI h ad bd o σ F) (hi : i + 5 ≤ N) (hN : N ≤ 2560) : ∃ h' σ' F', f_L_k26 xs N (ad 1289) (bd 0) o (nI i) h = some h' ∧ mh_LI h' ad bd o σ' F' := by
  have r1 : mh_sc xs N (nI i + (1 : Int32)) = some (xs (i + 1)) := mh_scr hi hN (j := 1) (by omega)
  have r2 : mh_sc xs N (nI i + (2 : Int32)) = some (xs (i + 2)) := mh_scr hi hN (j := 2) (by omega)
  have hG := hL.2.1.gd
  have h20 := hL.2.2.2.2.2.2
  have hK : ∃ r h1 σ1, f_X11_apart_e (ad 1289) (xs (i + 1)) (xs (i + 2)) h = some (r, h1) ∧ (fun (r : Nat ⊕ Int32) (σ' : mh_Sg) => (mh_Qm σ (xs (i + 1)) (mh_Bap (xs (i + 2)))) r ∧ σ' = σ) r σ1 ∧ mh_CI h1 ad σ1 ∧ mh_frC ad h h1 := by
    obtain ⟨r, h1, e1, e2, e3, e4⟩ := mh_K_apart hL.1 (xs (i + 1)) (xs (i + 2))
    exact ⟨r, h1, σ, e1, ⟨e2, rfl⟩, e3, e4⟩
  have hM : ∀ h F, mh_RI h bd σ F → ∃ r v h' σ' F', (fun h => f_X12_apart_e (bd 0) (xs (i + 1)) (xs (i + 2)) h) h = some (v, h') ∧ (fun (r : Nat ⊕ Int32) (σ' : mh_Sg) => (mh_Qm σ (xs (i + 1)) (mh_Bap (xs (i + 2)))) r ∧ σ' = σ) r σ' ∧ mh_an r v F' ∧ mh_RI h' bd σ' F' ∧ mh_frR bd h h' := fun h F hR => by
    obtain ⟨r, v, h1, F1, e1, e2, e3, e4, e5⟩ := mh_M_apart hR (xs (i + 1)) (xs (i + 2))
    exact ⟨r, v, h1, σ, F1, e1, ⟨e2, rfl⟩, e3, e4, e5⟩
  have hu : ∀ (r r' : Nat ⊕ Int32) (σ1 σ2 : mh_Sg), (fun (r : Nat ⊕ Int32) (σ' : mh_Sg) => (mh_Qm σ (xs (i + 1)) (mh_Bap (xs (i + 2)))) r ∧ σ' = σ) r σ1 → (fun (r : Nat ⊕ Int32) (σ' : mh_Sg) => (mh_Qm σ (xs (i + 1)) (mh_Bap (xs (i + 2)))) r ∧ σ' = σ) r' σ2 → r = r' ∧ σ1 = σ2 := fun _ _ _ _ a b => ⟨mh_Qm_v (B := (mh_Bap (xs (i + 2)))) hG (fun _ _ _ m a b => mh_Bap_u a b) a.1 b.1, a.2.trans b.2.symm⟩
  have hc : ∀ (e : Nat) (σ1 : mh_Sg), (fun (r : Nat ⊕ Int32) (σ' : mh_Sg) => (mh_Qm σ (xs (i + 1)) (mh_Bap (xs (i + 2)))) r ∧ σ' = σ) (.inl e) σ1 → (fun e => e = 1 ∨ e = 2) e := fun e σ1 a => mh_Qm_c (P := (fun e => e = 1 ∨ e = 2)) (Or.inl rfl) (fun cs e q => by show e = 1 ∨ e = 2; first | (simp [mh_Bap] at q; done) | (simp [mh_Bap] at q; omega) | (simp [mh_Bap] at q; grind)) a.1
  have h2 : ∀ (r : Nat ⊕ Int32) (σ1 : mh_Sg), (fun (r : Nat ⊕ Int32) (σ' : mh_Sg) => (mh_Qm σ (xs (i + 1)) (mh_Bap (xs (i + 2)))) r ∧ σ' = σ) r σ1 → mh_St20 σ1 := fun r σ1 a => by rw [a.2]; exact h20
  have hfx : ∀ (e : Nat) (h' : mh_H), (fun e => e = 1 ∨ e = 2) e → (fun (k : Nat) (h2 : mh_H) => if k = 1 then (some ((1 : Int32), h2)) else if k = 2 then (some ((2 : Int32), h2)) else none) e h' = some (nI e, h') := fun e h' q => by
    have q : e = 1 ∨ e = 2 := q
    rcases q with rfl | rfl
    · exact if_pos rfl
    · exact (if_neg (by decide)).trans (if_pos rfl)
  have hf : ∀ (v : Int32) (h' : mh_H) (fl : Nat → Int64), h' o = some (.inl (1, 1, .inr (.inl fl))) → (fun (v3 : Int32) (h1 : mh_H) => (mh_sJ h1 o (0 : Int32) ((v3).toInt64)).bind fun h4 => some ((0 : Int32), h4)) v h' = some (0, mh_up h' o (.inl (1, 1, .inr (.inl (vp_updL fl 0 ((fun v => v.toInt64) v)))))) := fun v h' fl ho => by
    have s0 : ∀ w, mh_sJ h' o (0 : Int32) w = some (mh_up h' o (.inl (1, 1, .inr (.inl (vp_updL fl 0 w))))) := fun w => mh_sJ_eq (j := 0) ho (by omega) (by omega)
    show (mh_sJ h' o (0 : Int32) _).bind _ = _
    rw [s0, Option.bind_some]
  obtain ⟨k, hb, v, hd, σ1, F1, fs2, fs3, e1, e2, e3, e4, e5, e6, e7⟩ := mh_step (P := (fun e => e = 1 ∨ e = 2)) (g := (fun v => v.toInt64)) hL hK hM hu hc (fun _ q => q) h2 hfx hf
  have e1 : f_L_apart_e (ad 1289) (xs (i + 1)) (xs (i + 2)) o h = some (k, hb) := e1
  refine ⟨hd, σ1, F1, ?_, e7⟩
  unfold f_L_k26
  simp only [r1, r2, Option.bind_some]
  rw [mh_b2_eq e1, mh_cal_eq e2, mh_b2_eq e3, mh_cal_eq e4, mh_b2_eq e5]
  exact mh_tail e6
set_option maxRecDepth 10000 in
theorem mh_L_k27 (hL : mh_LI h ad bd o σ F) (hi : i + 5 ≤ N) (hN : N ≤ 2560) : ∃ h' σ' F', f_L_k27 xs N (ad 1289) (bd 0) o (nI i) h = some h' ∧ mh_LI h' ad bd o σ' F' := by
  have r1 : mh_sc xs N (nI i + (1 : Int32)) = some (xs (i + 1)) := mh_scr hi hN (j := 1) (by omega)
  have r2 : mh_sc xs N (nI i + (2 : Int32)) = some (xs (i + 2)) := mh_scr hi hN (j := 2) (by omega)
  have hG := hL.2.1.gd
  have h20 := hL.2.2.2.2.2.2
  have hK : ∃ r h1 σ1, f_X11_stamps_e (ad 1289) (xs (i + 1)) (xs (i + 2)) h = some (r, h1) ∧ (fun (r : Nat ⊕ Int32) (σ' : mh_Sg) => (mh_Qm σ (xs (i + 1)) (mh_Bst (xs (i + 2)))) r ∧ σ' = σ) r σ1 ∧ mh_CI h1 ad σ1 ∧ mh_frC ad h h1 := by
    obtain ⟨r, h1, e1, e2, e3, e4⟩ := mh_K_stamps hL.1 (xs (i + 1)) (xs (i + 2))
    exact ⟨r, h1, σ, e1, ⟨e2, rfl⟩, e3, e4⟩
  have hM : ∀ h F, mh_RI h bd σ F → ∃ r v h' σ' F', (fun h => f_X12_stamps_e (bd 0) (xs (i + 1)) (xs (i + 2)) h) h = some (v, h') ∧ (fun (r : Nat ⊕ Int32) (σ' : mh_Sg) => (mh_Qm σ (xs (i + 1)) (mh_Bst (xs (i + 2)))) r ∧ σ' = σ) r σ' ∧ mh_an r v F' ∧ mh_RI h' bd σ' F' ∧ mh_frR bd h h' := fun h F hR => by
    obtain ⟨r, v, h1, F1, e1, e2, e3, e4, e5⟩ := mh_M_stamps hR (xs (i + 1)) (xs (i + 2))
    exact ⟨r, v, h1, σ, F1, e1, ⟨e2, rfl⟩, e3, e4, e5⟩
  have hu : ∀ (r r' : Nat ⊕ Int32) (σ1 σ2 : mh_Sg), (fun (r : Nat ⊕ Int32) (σ' : mh_Sg) => (mh_Qm σ (xs (i + 1)) (mh_Bst (xs (i + 2)))) r ∧ σ' = σ) r σ1 → (fun (r : Nat ⊕ Int32) (σ' : mh_Sg) => (mh_Qm σ (xs (i + 1)) (mh_Bst (xs (i + 2)))) r ∧ σ' = σ) r' σ2 → r = r' ∧ σ1 = σ2 := fun _ _ _ _ a b => ⟨mh_Qm_v (B := (mh_Bst (xs (i + 2)))) hG (fun _ _ _ m a b => mh_Bst_u a b) a.1 b.1, a.2.trans b.2.symm⟩
  have hc : ∀ (e : Nat) (σ1 : mh_Sg), (fun (r : Nat ⊕ Int32) (σ' : mh_Sg) => (mh_Qm σ (xs (i + 1)) (mh_Bst (xs (i + 2)))) r ∧ σ' = σ) (.inl e) σ1 → (fun e => e = 1 ∨ e = 2) e := fun e σ1 a => mh_Qm_c (P := (fun e => e = 1 ∨ e = 2)) (Or.inl rfl) (fun cs e q => by show e = 1 ∨ e = 2; first | (simp [mh_Bst] at q; done) | (simp [mh_Bst] at q; omega) | (simp [mh_Bst] at q; grind)) a.1
  have h2 : ∀ (r : Nat ⊕ Int32) (σ1 : mh_Sg), (fun (r : Nat ⊕ Int32) (σ' : mh_Sg) => (mh_Qm σ (xs (i + 1)) (mh_Bst (xs (i + 2)))) r ∧ σ' = σ) r σ1 → mh_St20 σ1 := fun r σ1 a => by rw [a.2]; exact h20
  have hfx : ∀ (e : Nat) (h' : mh_H), (fun e => e = 1 ∨ e = 2) e → (fun (k : Nat) (h2 : mh_H) => if k = 1 then (some ((1 : Int32), h2)) else if k = 2 then (some ((2 : Int32), h2)) else none) e h' = some (nI e, h') := fun e h' q => by
    have q : e = 1 ∨ e = 2 := q
    rcases q with rfl | rfl
    · exact if_pos rfl
    · exact (if_neg (by decide)).trans (if_pos rfl)
  have hf : ∀ (v : Int32) (h' : mh_H) (fl : Nat → Int64), h' o = some (.inl (1, 1, .inr (.inl fl))) → (fun (v3 : Int32) (h1 : mh_H) => (mh_sJ h1 o (0 : Int32) ((v3).toInt64)).bind fun h4 => some ((0 : Int32), h4)) v h' = some (0, mh_up h' o (.inl (1, 1, .inr (.inl (vp_updL fl 0 ((fun v => v.toInt64) v)))))) := fun v h' fl ho => by
    have s0 : ∀ w, mh_sJ h' o (0 : Int32) w = some (mh_up h' o (.inl (1, 1, .inr (.inl (vp_updL fl 0 w))))) := fun w => mh_sJ_eq (j := 0) ho (by omega) (by omega)
    show (mh_sJ h' o (0 : Int32) _).bind _ = _
    rw [s0, Option.bind_some]
  obtain ⟨k, hb, v, hd, σ1, F1, fs2, fs3, e1, e2, e3, e4, e5, e6, e7⟩ := mh_step (P := (fun e => e = 1 ∨ e = 2)) (g := (fun v => v.toInt64)) hL hK hM hu hc (fun _ q => q) h2 hfx hf
  have e1 : f_L_stamps_e (ad 1289) (xs (i + 1)) (xs (i + 2)) o h = some (k, hb) := e1
  refine ⟨hd, σ1, F1, ?_, e7⟩
  unfold f_L_k27
  simp only [r1, r2, Option.bind_some]
  rw [mh_b2_eq e1, mh_cal_eq e2, mh_b2_eq e3, mh_cal_eq e4, mh_b2_eq e5]
  exact mh_tail e6
set_option maxRecDepth 10000 in
theorem mh_L_k28 (hL : mh_LI h ad bd o σ F) (hi : i + 5 ≤ N) (hN : N ≤ 2560) : ∃ h' σ' F', f_L_k28 xs N (ad 1289) (bd 0) o (nI i) h = some h' ∧ mh_LI h' ad bd o σ' F' := by
  have r1 : mh_sc xs N (nI i + (1 : Int32)) = some (xs (i + 1)) := mh_scr hi hN (j := 1) (by omega)
  have r2 : mh_sc xs N (nI i + (2 : Int32)) = some (xs (i + 2)) := mh_scr hi hN (j := 2) (by omega)
  have r3 : mh_sc xs N (nI i + (3 : Int32)) = some (xs (i + 3)) := mh_scr hi hN (j := 3) (by omega)
  have hG := hL.2.1.gd
  have h20 := hL.2.2.2.2.2.2
  have hK : ∃ r h1 σ1, f_X11_span_e (ad 1289) (xs (i + 1)) (xs (i + 2)) (xs (i + 3)) h = some (r, h1) ∧ (fun (r : Nat ⊕ Int64) (σ' : mh_Sg) => (mh_Qm σ (xs (i + 1)) (mh_Bsp (xs (i + 2)) (xs (i + 3)))) r ∧ σ' = σ) r σ1 ∧ mh_CI h1 ad σ1 ∧ mh_frC ad h h1 := by
    obtain ⟨r, h1, e1, e2, e3, e4⟩ := mh_K_span hL.1 (xs (i + 1)) (xs (i + 2)) (xs (i + 3))
    exact ⟨r, h1, σ, e1, ⟨e2, rfl⟩, e3, e4⟩
  have hM : ∀ h F, mh_RI h bd σ F → ∃ r v h' σ' F', (fun h => f_X12_span_e (bd 0) (xs (i + 1)) (xs (i + 2)) (xs (i + 3)) h) h = some (v, h') ∧ (fun (r : Nat ⊕ Int64) (σ' : mh_Sg) => (mh_Qm σ (xs (i + 1)) (mh_Bsp (xs (i + 2)) (xs (i + 3)))) r ∧ σ' = σ) r σ' ∧ mh_an r v F' ∧ mh_RI h' bd σ' F' ∧ mh_frR bd h h' := fun h F hR => by
    obtain ⟨r, v, h1, F1, e1, e2, e3, e4, e5⟩ := mh_M_span hR (xs (i + 1)) (xs (i + 2)) (xs (i + 3))
    exact ⟨r, v, h1, σ, F1, e1, ⟨e2, rfl⟩, e3, e4, e5⟩
  have hu : ∀ (r r' : Nat ⊕ Int64) (σ1 σ2 : mh_Sg), (fun (r : Nat ⊕ Int64) (σ' : mh_Sg) => (mh_Qm σ (xs (i + 1)) (mh_Bsp (xs (i + 2)) (xs (i + 3)))) r ∧ σ' = σ) r σ1 → (fun (r : Nat ⊕ Int64) (σ' : mh_Sg) => (mh_Qm σ (xs (i + 1)) (mh_Bsp (xs (i + 2)) (xs (i + 3)))) r ∧ σ' = σ) r' σ2 → r = r' ∧ σ1 = σ2 := fun _ _ _ _ a b => ⟨mh_Qm_v (B := (mh_Bsp (xs (i + 2)) (xs (i + 3)))) hG (fun _ _ _ m a b => mh_Bsp_u a b) a.1 b.1, a.2.trans b.2.symm⟩
  have hc : ∀ (e : Nat) (σ1 : mh_Sg), (fun (r : Nat ⊕ Int64) (σ' : mh_Sg) => (mh_Qm σ (xs (i + 1)) (mh_Bsp (xs (i + 2)) (xs (i + 3)))) r ∧ σ' = σ) (.inl e) σ1 → (fun e => e = 1 ∨ e = 2) e := fun e σ1 a => mh_Qm_c (P := (fun e => e = 1 ∨ e = 2)) (Or.inl rfl) (fun cs e q => by show e = 1 ∨ e = 2; first | (simp [mh_Bsp] at q; done) | (simp [mh_Bsp] at q; omega) | (simp [mh_Bsp] at q; grind)) a.1
  have h2 : ∀ (r : Nat ⊕ Int64) (σ1 : mh_Sg), (fun (r : Nat ⊕ Int64) (σ' : mh_Sg) => (mh_Qm σ (xs (i + 1)) (mh_Bsp (xs (i + 2)) (xs (i + 3)))) r ∧ σ' = σ) r σ1 → mh_St20 σ1 := fun r σ1 a => by rw [a.2]; exact h20
  have hfx : ∀ (e : Nat) (h' : mh_H), (fun e => e = 1 ∨ e = 2) e → (fun (k : Nat) (h2 : mh_H) => if k = 1 then (some ((1 : Int32), h2)) else if k = 2 then (some ((2 : Int32), h2)) else none) e h' = some (nI e, h') := fun e h' q => by
    have q : e = 1 ∨ e = 2 := q
    rcases q with rfl | rfl
    · exact if_pos rfl
    · exact (if_neg (by decide)).trans (if_pos rfl)
  have hf : ∀ (v : Int64) (h' : mh_H) (fl : Nat → Int64), h' o = some (.inl (1, 1, .inr (.inl fl))) → (fun (w3 : Int64) (h1 : mh_H) => (mh_sJ h1 o (0 : Int32) w3).bind fun h4 => some ((0 : Int32), h4)) v h' = some (0, mh_up h' o (.inl (1, 1, .inr (.inl (vp_updL fl 0 ((fun v => v) v)))))) := fun v h' fl ho => by
    have s0 : ∀ w, mh_sJ h' o (0 : Int32) w = some (mh_up h' o (.inl (1, 1, .inr (.inl (vp_updL fl 0 w))))) := fun w => mh_sJ_eq (j := 0) ho (by omega) (by omega)
    show (mh_sJ h' o (0 : Int32) _).bind _ = _
    rw [s0, Option.bind_some]
  obtain ⟨k, hb, v, hd, σ1, F1, fs2, fs3, e1, e2, e3, e4, e5, e6, e7⟩ := mh_step (P := (fun e => e = 1 ∨ e = 2)) (g := (fun v => v)) hL hK hM hu hc (fun _ q => q) h2 hfx hf
  have e1 : f_L_span_e (ad 1289) (xs (i + 1)) (xs (i + 2)) (xs (i + 3)) o h = some (k, hb) := e1
  refine ⟨hd, σ1, F1, ?_, e7⟩
  unfold f_L_k28
  simp only [r1, r2, r3, Option.bind_some]
  rw [mh_b2_eq e1, mh_cal_eq e2, mh_b2_eq e3, mh_cal_eq e4, mh_b2_eq e5]
  exact mh_tail e6
set_option maxRecDepth 10000 in
theorem mh_L_k29 (hL : mh_LI h ad bd o σ F) (hi : i + 5 ≤ N) (hN : N ≤ 2560) : ∃ h' σ' F', f_L_k29 xs N (ad 1289) (bd 0) o (nI i) h = some h' ∧ mh_LI h' ad bd o σ' F' := by
  have r1 : mh_sc xs N (nI i + (1 : Int32)) = some (xs (i + 1)) := mh_scr hi hN (j := 1) (by omega)
  have r2 : mh_sc xs N (nI i + (2 : Int32)) = some (xs (i + 2)) := mh_scr hi hN (j := 2) (by omega)
  have r3 : mh_sc xs N (nI i + (3 : Int32)) = some (xs (i + 3)) := mh_scr hi hN (j := 3) (by omega)
  have hG := hL.2.1.gd
  have h20 := hL.2.2.2.2.2.2
  have hK : ∃ r h1 σ1, f_X11_best_e (ad 1289) (xs (i + 1)) (xs (i + 2)) (xs (i + 3)) h = some (r, h1) ∧ (mh_Sbest σ (xs (i + 1)) (xs (i + 2)) (xs (i + 3))) r σ1 ∧ mh_CI h1 ad σ1 ∧ mh_frC ad h h1 := mh_K_best hL.1 (xs (i + 1)) (xs (i + 2)) (xs (i + 3))
  have hM : ∀ h F, mh_RI h bd σ F → ∃ r v h' σ' F', (fun h => f_X12_best_e (bd 0) (xs (i + 1)) (xs (i + 2)) (xs (i + 3)) h) h = some (v, h') ∧ (mh_Sbest σ (xs (i + 1)) (xs (i + 2)) (xs (i + 3))) r σ' ∧ mh_an r v F' ∧ mh_RI h' bd σ' F' ∧ mh_frR bd h h' := fun h F hR => mh_M_best hR (xs (i + 1)) (xs (i + 2)) (xs (i + 3))
  have hu : ∀ (r r' : Nat ⊕ Int32) (σ1 σ2 : mh_Sg), (mh_Sbest σ (xs (i + 1)) (xs (i + 2)) (xs (i + 3))) r σ1 → (mh_Sbest σ (xs (i + 1)) (xs (i + 2)) (xs (i + 3))) r' σ2 → r = r' ∧ σ1 = σ2 := fun _ _ _ _ a b => mh_Sbest_u a b
  have hc : ∀ (e : Nat) (σ1 : mh_Sg), (mh_Sbest σ (xs (i + 1)) (xs (i + 2)) (xs (i + 3))) (.inl e) σ1 → (fun e => e = 1 ∨ e = 2) e := fun e σ1 q => by show e = 1 ∨ e = 2; first | (simp [mh_Sbest] at q; done) | (simp [mh_Sbest] at q; omega) | (simp [mh_Sbest] at q; grind)
  have h2 : ∀ (r : Nat ⊕ Int32) (σ1 : mh_Sg), (mh_Sbest σ (xs (i + 1)) (xs (i + 2)) (xs (i + 3))) r σ1 → mh_St20 σ1 := fun r σ1 a => mh_20_best h20 a
  have hfx : ∀ (e : Nat) (h' : mh_H), (fun e => e = 1 ∨ e = 2) e → (fun (k : Nat) (h2 : mh_H) => if k = 1 then (some ((1 : Int32), h2)) else if k = 2 then (some ((2 : Int32), h2)) else none) e h' = some (nI e, h') := fun e h' q => by
    have q : e = 1 ∨ e = 2 := q
    rcases q with rfl | rfl
    · exact if_pos rfl
    · exact (if_neg (by decide)).trans (if_pos rfl)
  have hf : ∀ (v : Int32) (h' : mh_H) (fl : Nat → Int64), h' o = some (.inl (1, 1, .inr (.inl fl))) → (fun (v3 : Int32) (h1 : mh_H) => (mh_sJ h1 o (0 : Int32) ((v3).toInt64)).bind fun h4 => some ((0 : Int32), h4)) v h' = some (0, mh_up h' o (.inl (1, 1, .inr (.inl (vp_updL fl 0 ((fun v => v.toInt64) v)))))) := fun v h' fl ho => by
    have s0 : ∀ w, mh_sJ h' o (0 : Int32) w = some (mh_up h' o (.inl (1, 1, .inr (.inl (vp_updL fl 0 w))))) := fun w => mh_sJ_eq (j := 0) ho (by omega) (by omega)
    show (mh_sJ h' o (0 : Int32) _).bind _ = _
    rw [s0, Option.bind_some]
  obtain ⟨k, hb, v, hd, σ1, F1, fs2, fs3, e1, e2, e3, e4, e5, e6, e7⟩ := mh_step (P := (fun e => e = 1 ∨ e = 2)) (g := (fun v => v.toInt64)) hL hK hM hu hc (fun _ q => q) h2 hfx hf
  have e1 : f_L_best_e (ad 1289) (xs (i + 1)) (xs (i + 2)) (xs (i + 3)) o h = some (k, hb) := e1
  refine ⟨hd, σ1, F1, ?_, e7⟩
  unfold f_L_k29
  simp only [r1, r2, r3, Option.bind_some]
  rw [mh_b2_eq e1, mh_cal_eq e2, mh_b2_eq e3, mh_cal_eq e4, mh_b2_eq e5]
  exact mh_tail e6
set_option maxRecDepth 10000 in
theorem mh_L_k30 (hL : mh_LI h ad bd o σ F) (hi : i + 5 ≤ N) (hN : N ≤ 2560) : ∃ h' σ' F', f_L_k30 xs N (ad 1289) (bd 0) o (nI i) h = some h' ∧ mh_LI h' ad bd o σ' F' := by
  obtain ⟨hC, hR, dj, ⟨fl, ho⟩, d1, d2, h20⟩ := hL
  have e1 := mh_K_cases hC
  have C1 := hC
  have f1 : mh_frC ad h h := mh_frC.rfl
  have h1 := h
  have hR1 : mh_RI h bd σ F := hR.hold (fun k hk => f1 _ (fun i hi => (dj i k hi hk).symm))
  obtain ⟨h2, F2, b1, b3, b4, b5⟩ := mh_M_cases hR1
  refine ⟨h2, σ, F2, ?_, C1.hold (fun k hk => b5 _ (fun j hj => dj k j hk hj)), b4, dj, ⟨fl, (b5 _ (fun j hj => (d2 j hj).symm)).trans ((f1 _ (fun i hi => (d1 i hi).symm)).trans ho)⟩, d1, d2, h20⟩
  unfold f_L_k30
  rw [mh_cal_eq hC.ob, mh_b2_eq e1, mh_cal_eq hR1.ob, mh_b2_eq b1, if_pos rfl]
set_option maxRecDepth 10000 in
theorem mh_L_k31 (hL : mh_LI h ad bd o σ F) (hi : i + 5 ≤ N) (hN : N ≤ 2560) : ∃ h' σ' F', f_L_k31 xs N (ad 1289) (bd 0) o (nI i) h = some h' ∧ mh_LI h' ad bd o σ' F' := by
  have r1 : mh_sc xs N (nI i + (1 : Int32)) = some (xs (i + 1)) := mh_scr hi hN (j := 1) (by omega)
  have r2 : mh_sc xs N (nI i + (2 : Int32)) = some (xs (i + 2)) := mh_scr hi hN (j := 2) (by omega)
  obtain ⟨hC, hR, dj, ⟨fl, ho⟩, d1, d2, h20⟩ := hL
  obtain ⟨r, h1, σ1, e1, s1, C1, f1⟩ := mh_K_open hC (xs (i + 1)) (xs (i + 2))
  have hR1 : mh_RI h1 bd σ F := hR.hold (fun k hk => f1 _ (fun i hi => (dj i k hi hk).symm))
  obtain ⟨r2, h2, σ2, F2, b1, b2, b3, b4, b5⟩ := mh_M_open hR1 (xs (i + 1)) (xs (i + 2))
  obtain ⟨u1, u2⟩ := mh_Sopen_u s1 b2
  subst u1 u2
  refine ⟨h2, σ1, F2, ?_, C1.hold (fun k hk => b5 _ (fun j hj => dj k j hk hj)), b4, dj, ⟨fl, (b5 _ (fun j hj => (d2 j hj).symm)).trans ((f1 _ (fun i hi => (d1 i hi).symm)).trans ho)⟩, d1, d2, mh_20_open h20 s1⟩
  have w1 : f_L_open_e (ad 1289) (xs (i + 1)) (xs (i + 2)) h = some (mh_cd r, h1) := by
    unfold f_L_open_e
    rw [mh_cal_eq hC.ob, e1]
    rcases r with e | v
    · have q : e = 1 := by simp [mh_Sopen] at s1; first | omega | grind
      subst q
      rfl
    · rfl
  have w2 : f_X12_thrown_e (bd 0) h2 = some (mh_cd r, h2) := by
    unfold f_X12_thrown_e
    rw [mh_gI_eq (k := 0) b4.ob rfl, Option.bind_some]
    rcases b3 with ⟨t, t2⟩ | ⟨e, t, t2⟩
    · rw [t, t2]; rfl
    · rw [t, t2]; rfl
  unfold f_L_k31
  simp only [r1, r2, Option.bind_some]
  rw [mh_b2_eq w1, mh_cal_eq hR1.ob, b1, Option.bind_some, mh_cal_eq b4.ob, mh_b2_eq w2, if_pos rfl]
set_option maxRecDepth 10000 in
theorem mh_L_k32 (hL : mh_LI h ad bd o σ F) (hi : i + 5 ≤ N) (hN : N ≤ 2560) : ∃ h' σ' F', f_L_k32 xs N (ad 1289) (bd 0) o (nI i) h = some h' ∧ mh_LI h' ad bd o σ' F' := by
  have r1 : mh_sc xs N (nI i + (1 : Int32)) = some (xs (i + 1)) := mh_scr hi hN (j := 1) (by omega)
  have r2 : mh_sc xs N (nI i + (2 : Int32)) = some (xs (i + 2)) := mh_scr hi hN (j := 2) (by omega)
  have r3 : mh_sc xs N (nI i + (3 : Int32)) = some (xs (i + 3)) := mh_scr hi hN (j := 3) (by omega)
  have hG := hL.2.1.gd
  have h20 := hL.2.2.2.2.2.2
  have hK : ∃ r h1 σ1, f_X11_fill_e (ad 1289) (xs (i + 1)) (xs (i + 2)) (xs (i + 3)) h = some (r, h1) ∧ (mh_Sfill σ (xs (i + 1)) (xs (i + 2)) (xs (i + 3))) r σ1 ∧ mh_CI h1 ad σ1 ∧ mh_frC ad h h1 := mh_K_fill hL.1 (xs (i + 1)) (xs (i + 2)) (xs (i + 3))
  have hM : ∀ h F, mh_RI h bd σ F → ∃ r v h' σ' F', (fun h => f_X12_fill_e (bd 0) (xs (i + 1)) (xs (i + 2)) (xs (i + 3)) h) h = some (v, h') ∧ (mh_Sfill σ (xs (i + 1)) (xs (i + 2)) (xs (i + 3))) r σ' ∧ mh_an r v F' ∧ mh_RI h' bd σ' F' ∧ mh_frR bd h h' := fun h F hR => mh_M_fill hR (xs (i + 1)) (xs (i + 2)) (xs (i + 3))
  have hu : ∀ (r r' : Nat ⊕ Int32) (σ1 σ2 : mh_Sg), (mh_Sfill σ (xs (i + 1)) (xs (i + 2)) (xs (i + 3))) r σ1 → (mh_Sfill σ (xs (i + 1)) (xs (i + 2)) (xs (i + 3))) r' σ2 → r = r' ∧ σ1 = σ2 := fun _ _ _ _ a b => mh_Sfill_u hG a b
  have hc : ∀ (e : Nat) (σ1 : mh_Sg), (mh_Sfill σ (xs (i + 1)) (xs (i + 2)) (xs (i + 3))) (.inl e) σ1 → (fun e => e = 1) e := fun e σ1 q => by show e = 1; first | (simp [mh_Sfill] at q; done) | (simp [mh_Sfill] at q; omega) | (simp [mh_Sfill] at q; grind)
  have h2 : ∀ (r : Nat ⊕ Int32) (σ1 : mh_Sg), (mh_Sfill σ (xs (i + 1)) (xs (i + 2)) (xs (i + 3))) r σ1 → mh_St20 σ1 := fun r σ1 a => mh_20_fill h20 a
  have hfx : ∀ (e : Nat) (h' : mh_H), (fun e => e = 1) e → (fun (k : Nat) (h2 : mh_H) => if k = 1 then (some ((1 : Int32), h2)) else none) e h' = some (nI e, h') := fun e h' q => by
    have q : e = 1 := q
    subst q
    exact if_pos rfl
  have hf : ∀ (v : Int32) (h' : mh_H) (fl : Nat → Int64), h' o = some (.inl (1, 1, .inr (.inl fl))) → (fun (v3 : Int32) (h1 : mh_H) => (mh_sJ h1 o (0 : Int32) ((v3).toInt64)).bind fun h4 => some ((0 : Int32), h4)) v h' = some (0, mh_up h' o (.inl (1, 1, .inr (.inl (vp_updL fl 0 ((fun v => v.toInt64) v)))))) := fun v h' fl ho => by
    have s0 : ∀ w, mh_sJ h' o (0 : Int32) w = some (mh_up h' o (.inl (1, 1, .inr (.inl (vp_updL fl 0 w))))) := fun w => mh_sJ_eq (j := 0) ho (by omega) (by omega)
    show (mh_sJ h' o (0 : Int32) _).bind _ = _
    rw [s0, Option.bind_some]
  obtain ⟨k, hb, v, hd, σ1, F1, fs2, fs3, e1, e2, e3, e4, e5, e6, e7⟩ := mh_step (P := (fun e => e = 1)) (g := (fun v => v.toInt64)) hL hK hM hu hc (fun _ q => Or.inl q) h2 hfx hf
  have e1 : f_L_fill_e (ad 1289) (xs (i + 1)) (xs (i + 2)) (xs (i + 3)) o h = some (k, hb) := e1
  refine ⟨hd, σ1, F1, ?_, e7⟩
  unfold f_L_k32
  simp only [r1, r2, r3, Option.bind_some]
  rw [mh_b2_eq e1, mh_cal_eq e2, mh_b2_eq e3, mh_cal_eq e4, mh_b2_eq e5]
  exact mh_tail e6
set_option maxRecDepth 10000 in
theorem mh_L_k33 (hL : mh_LI h ad bd o σ F) (hi : i + 5 ≤ N) (hN : N ≤ 2560) : ∃ h' σ' F', f_L_k33 xs N (ad 1289) (bd 0) o (nI i) h = some h' ∧ mh_LI h' ad bd o σ' F' := by
  have r1 : mh_sc xs N (nI i + (1 : Int32)) = some (xs (i + 1)) := mh_scr hi hN (j := 1) (by omega)
  have r2 : mh_sc xs N (nI i + (2 : Int32)) = some (xs (i + 2)) := mh_scr hi hN (j := 2) (by omega)
  have hG := hL.2.1.gd
  have h20 := hL.2.2.2.2.2.2
  have hK : ∃ r h1 σ1, f_X11_has_e (ad 1289) (xs (i + 1)) (xs (i + 2)) h = some (r, h1) ∧ (fun (r : Nat ⊕ Int32) (σ' : mh_Sg) => (mh_Qp σ (xs (i + 1)) (mh_Bhas (xs (i + 2)))) r ∧ σ' = σ) r σ1 ∧ mh_CI h1 ad σ1 ∧ mh_frC ad h h1 := by
    obtain ⟨r, e1, e2⟩ := mh_K_has hL.1 (xs (i + 1)) (xs (i + 2))
    exact ⟨r, h, σ, e1, ⟨e2, rfl⟩, hL.1, mh_frC.rfl⟩
  have hM : ∀ h F, mh_RI h bd σ F → ∃ r v h' σ' F', (fun h => f_X12_has_e (bd 0) (xs (i + 1)) (xs (i + 2)) h) h = some (v, h') ∧ (fun (r : Nat ⊕ Int32) (σ' : mh_Sg) => (mh_Qp σ (xs (i + 1)) (mh_Bhas (xs (i + 2)))) r ∧ σ' = σ) r σ' ∧ mh_an r v F' ∧ mh_RI h' bd σ' F' ∧ mh_frR bd h h' := fun h F hR => by
    obtain ⟨r, v, h1, F1, e1, e2, e3, e4, e5⟩ := mh_M_has hR (xs (i + 1)) (xs (i + 2))
    exact ⟨r, v, h1, σ, F1, e1, ⟨e2, rfl⟩, e3, e4, e5⟩
  have hu : ∀ (r r' : Nat ⊕ Int32) (σ1 σ2 : mh_Sg), (fun (r : Nat ⊕ Int32) (σ' : mh_Sg) => (mh_Qp σ (xs (i + 1)) (mh_Bhas (xs (i + 2)))) r ∧ σ' = σ) r σ1 → (fun (r : Nat ⊕ Int32) (σ' : mh_Sg) => (mh_Qp σ (xs (i + 1)) (mh_Bhas (xs (i + 2)))) r ∧ σ' = σ) r' σ2 → r = r' ∧ σ1 = σ2 := fun _ _ _ _ a b => ⟨mh_Qp_v (B := (mh_Bhas (xs (i + 2)))) hG (fun _ _ _ _ m a b => mh_Bhas_u m a b) a.1 b.1, a.2.trans b.2.symm⟩
  have hc : ∀ (e : Nat) (σ1 : mh_Sg), (fun (r : Nat ⊕ Int32) (σ' : mh_Sg) => (mh_Qp σ (xs (i + 1)) (mh_Bhas (xs (i + 2)))) r ∧ σ' = σ) (.inl e) σ1 → (fun e => e = 1) e := fun e σ1 a => mh_Qp_c (P := (fun e => e = 1)) rfl (fun c n e q => by show e = 1; first | (simp [mh_Bhas] at q; done) | (simp [mh_Bhas] at q; omega) | (simp [mh_Bhas] at q; grind)) a.1
  have h2 : ∀ (r : Nat ⊕ Int32) (σ1 : mh_Sg), (fun (r : Nat ⊕ Int32) (σ' : mh_Sg) => (mh_Qp σ (xs (i + 1)) (mh_Bhas (xs (i + 2)))) r ∧ σ' = σ) r σ1 → mh_St20 σ1 := fun r σ1 a => by rw [a.2]; exact h20
  have hfx : ∀ (e : Nat) (h' : mh_H), (fun e => e = 1) e → (fun (k : Nat) (h2 : mh_H) => if k = 1 then (some ((1 : Int32), h2)) else none) e h' = some (nI e, h') := fun e h' q => by
    have q : e = 1 := q
    subst q
    exact if_pos rfl
  have hf : ∀ (v : Int32) (h' : mh_H) (fl : Nat → Int64), h' o = some (.inl (1, 1, .inr (.inl fl))) → (fun (v3 : Int32) (h1 : mh_H) => (mh_sJ h1 o (0 : Int32) ((v3).toInt64)).bind fun h4 => some ((0 : Int32), h4)) v h' = some (0, mh_up h' o (.inl (1, 1, .inr (.inl (vp_updL fl 0 ((fun v => v.toInt64) v)))))) := fun v h' fl ho => by
    have s0 : ∀ w, mh_sJ h' o (0 : Int32) w = some (mh_up h' o (.inl (1, 1, .inr (.inl (vp_updL fl 0 w))))) := fun w => mh_sJ_eq (j := 0) ho (by omega) (by omega)
    show (mh_sJ h' o (0 : Int32) _).bind _ = _
    rw [s0, Option.bind_some]
  obtain ⟨k, hb, v, hd, σ1, F1, fs2, fs3, e1, e2, e3, e4, e5, e6, e7⟩ := mh_step (P := (fun e => e = 1)) (g := (fun v => v.toInt64)) hL hK hM hu hc (fun _ q => Or.inl q) h2 hfx hf
  have e1 : f_L_has_e (ad 1289) (xs (i + 1)) (xs (i + 2)) o h = some (k, hb) := e1
  refine ⟨hd, σ1, F1, ?_, e7⟩
  unfold f_L_k33
  simp only [r1, r2, Option.bind_some]
  rw [mh_b2_eq e1, mh_cal_eq e2, mh_b2_eq e3, mh_cal_eq e4, mh_b2_eq e5]
  exact mh_tail e6
set_option maxRecDepth 10000 in
theorem mh_L_k34 (hL : mh_LI h ad bd o σ F) (hi : i + 5 ≤ N) (hN : N ≤ 2560) : ∃ h' σ' F', f_L_k34 xs N (ad 1289) (bd 0) o (nI i) h = some h' ∧ mh_LI h' ad bd o σ' F' := by
  have r1 : mh_sc xs N (nI i + (1 : Int32)) = some (xs (i + 1)) := mh_scr hi hN (j := 1) (by omega)
  have r2 : mh_sc xs N (nI i + (2 : Int32)) = some (xs (i + 2)) := mh_scr hi hN (j := 2) (by omega)
  have hG := hL.2.1.gd
  have h20 := hL.2.2.2.2.2.2
  have hK : ∃ r h1 σ1, f_X11_pays_e (ad 1289) (xs (i + 1)) (xs (i + 2)) h = some (r, h1) ∧ (fun (r : Nat ⊕ Int32) (σ' : mh_Sg) => (mh_Qp σ (xs (i + 1)) (mh_Bpays (xs (i + 2)))) r ∧ σ' = σ) r σ1 ∧ mh_CI h1 ad σ1 ∧ mh_frC ad h h1 := by
    obtain ⟨r, h1, e1, e2, e3, e4⟩ := mh_K_pays hL.1 (xs (i + 1)) (xs (i + 2))
    exact ⟨r, h1, σ, e1, ⟨e2, rfl⟩, e3, e4⟩
  have hM : ∀ h F, mh_RI h bd σ F → ∃ r v h' σ' F', (fun h => f_X12_pays_e (bd 0) (xs (i + 1)) (xs (i + 2)) h) h = some (v, h') ∧ (fun (r : Nat ⊕ Int32) (σ' : mh_Sg) => (mh_Qp σ (xs (i + 1)) (mh_Bpays (xs (i + 2)))) r ∧ σ' = σ) r σ' ∧ mh_an r v F' ∧ mh_RI h' bd σ' F' ∧ mh_frR bd h h' := fun h F hR => by
    obtain ⟨r, v, h1, F1, e1, e2, e3, e4, e5⟩ := mh_M_pays hR (xs (i + 1)) (xs (i + 2))
    exact ⟨r, v, h1, σ, F1, e1, ⟨e2, rfl⟩, e3, e4, e5⟩
  have hu : ∀ (r r' : Nat ⊕ Int32) (σ1 σ2 : mh_Sg), (fun (r : Nat ⊕ Int32) (σ' : mh_Sg) => (mh_Qp σ (xs (i + 1)) (mh_Bpays (xs (i + 2)))) r ∧ σ' = σ) r σ1 → (fun (r : Nat ⊕ Int32) (σ' : mh_Sg) => (mh_Qp σ (xs (i + 1)) (mh_Bpays (xs (i + 2)))) r ∧ σ' = σ) r' σ2 → r = r' ∧ σ1 = σ2 := fun _ _ _ _ a b => ⟨mh_Qp_v (B := (mh_Bpays (xs (i + 2)))) hG (fun _ _ _ _ m a b => mh_Bpays_u m a b) a.1 b.1, a.2.trans b.2.symm⟩
  have hc : ∀ (e : Nat) (σ1 : mh_Sg), (fun (r : Nat ⊕ Int32) (σ' : mh_Sg) => (mh_Qp σ (xs (i + 1)) (mh_Bpays (xs (i + 2)))) r ∧ σ' = σ) (.inl e) σ1 → (fun e => e = 1) e := fun e σ1 a => mh_Qp_c (P := (fun e => e = 1)) rfl (fun c n e q => by show e = 1; first | (simp [mh_Bpays] at q; done) | (simp [mh_Bpays] at q; omega) | (simp [mh_Bpays] at q; grind)) a.1
  have h2 : ∀ (r : Nat ⊕ Int32) (σ1 : mh_Sg), (fun (r : Nat ⊕ Int32) (σ' : mh_Sg) => (mh_Qp σ (xs (i + 1)) (mh_Bpays (xs (i + 2)))) r ∧ σ' = σ) r σ1 → mh_St20 σ1 := fun r σ1 a => by rw [a.2]; exact h20
  have hfx : ∀ (e : Nat) (h' : mh_H), (fun e => e = 1) e → (fun (k : Nat) (h2 : mh_H) => if k = 1 then (some ((1 : Int32), h2)) else none) e h' = some (nI e, h') := fun e h' q => by
    have q : e = 1 := q
    subst q
    exact if_pos rfl
  have hf : ∀ (v : Int32) (h' : mh_H) (fl : Nat → Int64), h' o = some (.inl (1, 1, .inr (.inl fl))) → (fun (v3 : Int32) (h1 : mh_H) => (mh_sJ h1 o (0 : Int32) ((v3).toInt64)).bind fun h4 => some ((0 : Int32), h4)) v h' = some (0, mh_up h' o (.inl (1, 1, .inr (.inl (vp_updL fl 0 ((fun v => v.toInt64) v)))))) := fun v h' fl ho => by
    have s0 : ∀ w, mh_sJ h' o (0 : Int32) w = some (mh_up h' o (.inl (1, 1, .inr (.inl (vp_updL fl 0 w))))) := fun w => mh_sJ_eq (j := 0) ho (by omega) (by omega)
    show (mh_sJ h' o (0 : Int32) _).bind _ = _
    rw [s0, Option.bind_some]
  obtain ⟨k, hb, v, hd, σ1, F1, fs2, fs3, e1, e2, e3, e4, e5, e6, e7⟩ := mh_step (P := (fun e => e = 1)) (g := (fun v => v.toInt64)) hL hK hM hu hc (fun _ q => Or.inl q) h2 hfx hf
  have e1 : f_L_pays_e (ad 1289) (xs (i + 1)) (xs (i + 2)) o h = some (k, hb) := e1
  refine ⟨hd, σ1, F1, ?_, e7⟩
  unfold f_L_k34
  simp only [r1, r2, Option.bind_some]
  rw [mh_b2_eq e1, mh_cal_eq e2, mh_b2_eq e3, mh_cal_eq e4, mh_b2_eq e5]
  exact mh_tail e6
set_option maxRecDepth 10000 in
theorem mh_L_k35 (hL : mh_LI h ad bd o σ F) (hi : i + 5 ≤ N) (hN : N ≤ 2560) : ∃ h' σ' F', f_L_k35 xs N (ad 1289) (bd 0) o (nI i) h = some h' ∧ mh_LI h' ad bd o σ' F' := by
  have r1 : mh_sc xs N (nI i + (1 : Int32)) = some (xs (i + 1)) := mh_scr hi hN (j := 1) (by omega)
  have hG := hL.2.1.gd
  have h20 := hL.2.2.2.2.2.2
  have hK : ∃ r h1 σ1, f_X11_holes_e (ad 1289) (xs (i + 1)) h = some (r, h1) ∧ (fun (r : Nat ⊕ Int32) (σ' : mh_Sg) => (mh_Qp σ (xs (i + 1)) mh_Bholes) r ∧ σ' = σ) r σ1 ∧ mh_CI h1 ad σ1 ∧ mh_frC ad h h1 := by
    obtain ⟨r, h1, e1, e2, e3, e4⟩ := mh_K_holes hL.1 (xs (i + 1))
    exact ⟨r, h1, σ, e1, ⟨e2, rfl⟩, e3, e4⟩
  have hM : ∀ h F, mh_RI h bd σ F → ∃ r v h' σ' F', (fun h => f_X12_holes_e (bd 0) (xs (i + 1)) h) h = some (v, h') ∧ (fun (r : Nat ⊕ Int32) (σ' : mh_Sg) => (mh_Qp σ (xs (i + 1)) mh_Bholes) r ∧ σ' = σ) r σ' ∧ mh_an r v F' ∧ mh_RI h' bd σ' F' ∧ mh_frR bd h h' := fun h F hR => by
    obtain ⟨r, v, h1, F1, e1, e2, e3, e4, e5⟩ := mh_M_holes hR (xs (i + 1))
    exact ⟨r, v, h1, σ, F1, e1, ⟨e2, rfl⟩, e3, e4, e5⟩
  have hu : ∀ (r r' : Nat ⊕ Int32) (σ1 σ2 : mh_Sg), (fun (r : Nat ⊕ Int32) (σ' : mh_Sg) => (mh_Qp σ (xs (i + 1)) mh_Bholes) r ∧ σ' = σ) r σ1 → (fun (r : Nat ⊕ Int32) (σ' : mh_Sg) => (mh_Qp σ (xs (i + 1)) mh_Bholes) r ∧ σ' = σ) r' σ2 → r = r' ∧ σ1 = σ2 := fun _ _ _ _ a b => ⟨mh_Qp_v (B := mh_Bholes) hG (fun _ _ _ _ m a b => a.trans b.symm) a.1 b.1, a.2.trans b.2.symm⟩
  have hc : ∀ (e : Nat) (σ1 : mh_Sg), (fun (r : Nat ⊕ Int32) (σ' : mh_Sg) => (mh_Qp σ (xs (i + 1)) mh_Bholes) r ∧ σ' = σ) (.inl e) σ1 → (fun e => e = 1) e := fun e σ1 a => mh_Qp_c (P := (fun e => e = 1)) rfl (fun c n e q => by show e = 1; first | (simp [mh_Bholes] at q; done) | (simp [mh_Bholes] at q; omega) | (simp [mh_Bholes] at q; grind)) a.1
  have h2 : ∀ (r : Nat ⊕ Int32) (σ1 : mh_Sg), (fun (r : Nat ⊕ Int32) (σ' : mh_Sg) => (mh_Qp σ (xs (i + 1)) mh_Bholes) r ∧ σ' = σ) r σ1 → mh_St20 σ1 := fun r σ1 a => by rw [a.2]; exact h20
  have hfx : ∀ (e : Nat) (h' : mh_H), (fun e => e = 1) e → (fun (k : Nat) (h2 : mh_H) => if k = 1 then (some ((1 : Int32), h2)) else none) e h' = some (nI e, h') := fun e h' q => by
    have q : e = 1 := q
    subst q
    exact if_pos rfl
  have hf : ∀ (v : Int32) (h' : mh_H) (fl : Nat → Int64), h' o = some (.inl (1, 1, .inr (.inl fl))) → (fun (v3 : Int32) (h1 : mh_H) => (mh_sJ h1 o (0 : Int32) ((v3).toInt64)).bind fun h4 => some ((0 : Int32), h4)) v h' = some (0, mh_up h' o (.inl (1, 1, .inr (.inl (vp_updL fl 0 ((fun v => v.toInt64) v)))))) := fun v h' fl ho => by
    have s0 : ∀ w, mh_sJ h' o (0 : Int32) w = some (mh_up h' o (.inl (1, 1, .inr (.inl (vp_updL fl 0 w))))) := fun w => mh_sJ_eq (j := 0) ho (by omega) (by omega)
    show (mh_sJ h' o (0 : Int32) _).bind _ = _
    rw [s0, Option.bind_some]
  obtain ⟨k, hb, v, hd, σ1, F1, fs2, fs3, e1, e2, e3, e4, e5, e6, e7⟩ := mh_step (P := (fun e => e = 1)) (g := (fun v => v.toInt64)) hL hK hM hu hc (fun _ q => Or.inl q) h2 hfx hf
  have e1 : f_L_holes_e (ad 1289) (xs (i + 1)) o h = some (k, hb) := e1
  refine ⟨hd, σ1, F1, ?_, e7⟩
  unfold f_L_k35
  simp only [r1, Option.bind_some]
  rw [mh_b2_eq e1, mh_cal_eq e2, mh_b2_eq e3, mh_cal_eq e4, mh_b2_eq e5]
  exact mh_tail e6
set_option maxRecDepth 10000 in
theorem mh_L_k36 (hL : mh_LI h ad bd o σ F) (hi : i + 5 ≤ N) (hN : N ≤ 2560) : ∃ h' σ' F', f_L_k36 xs N (ad 1289) (bd 0) o (nI i) h = some h' ∧ mh_LI h' ad bd o σ' F' := by
  have r1 : mh_sc xs N (nI i + (1 : Int32)) = some (xs (i + 1)) := mh_scr hi hN (j := 1) (by omega)
  have r2 : mh_sc xs N (nI i + (2 : Int32)) = some (xs (i + 2)) := mh_scr hi hN (j := 2) (by omega)
  have r3 : mh_sc xs N (nI i + (3 : Int32)) = some (xs (i + 3)) := mh_scr hi hN (j := 3) (by omega)
  have hG := hL.2.1.gd
  have h20 := hL.2.2.2.2.2.2
  have hK : ∃ r h1 σ1, f_X11_change_e (ad 1289) (xs (i + 1)) (xs (i + 2)) (xs (i + 3)) h = some (r, h1) ∧ (fun (r : Nat ⊕ Int32) (σ' : mh_Sg) => (fun r => mh_Bchg σ (xs (i + 1)) (xs (i + 2)) (xs (i + 3)) (fun _ _ _ ks ms => r = .inr (nI (ks.sum + ms.sum))) (r = .inr (-1)) (fun e => r = .inl e)) r ∧ σ' = σ) r σ1 ∧ mh_CI h1 ad σ1 ∧ mh_frC ad h h1 := by
    obtain ⟨r, h1, e1, e2, e3, e4⟩ := mh_K_change hL.1 (xs (i + 1)) (xs (i + 2)) (xs (i + 3))
    exact ⟨r, h1, σ, e1, ⟨e2, rfl⟩, e3, e4⟩
  have hM : ∀ h F, mh_RI h bd σ F → ∃ r v h' σ' F', (fun h => f_X12_change_e (bd 0) (xs (i + 1)) (xs (i + 2)) (xs (i + 3)) h) h = some (v, h') ∧ (fun (r : Nat ⊕ Int32) (σ' : mh_Sg) => (fun r => mh_Bchg σ (xs (i + 1)) (xs (i + 2)) (xs (i + 3)) (fun _ _ _ ks ms => r = .inr (nI (ks.sum + ms.sum))) (r = .inr (-1)) (fun e => r = .inl e)) r ∧ σ' = σ) r σ' ∧ mh_an r v F' ∧ mh_RI h' bd σ' F' ∧ mh_frR bd h h' := fun h F hR => by
    obtain ⟨r, v, h1, F1, e1, e2, e3, e4, e5⟩ := mh_M_change hR (xs (i + 1)) (xs (i + 2)) (xs (i + 3))
    exact ⟨r, v, h1, σ, F1, e1, ⟨e2, rfl⟩, e3, e4, e5⟩
  have hu : ∀ (r r' : Nat ⊕ Int32) (σ1 σ2 : mh_Sg), (fun (r : Nat ⊕ Int32) (σ' : mh_Sg) => (fun r => mh_Bchg σ (xs (i + 1)) (xs (i + 2)) (xs (i + 3)) (fun _ _ _ ks ms => r = .inr (nI (ks.sum + ms.sum))) (r = .inr (-1)) (fun e => r = .inl e)) r ∧ σ' = σ) r σ1 → (fun (r : Nat ⊕ Int32) (σ' : mh_Sg) => (fun r => mh_Bchg σ (xs (i + 1)) (xs (i + 2)) (xs (i + 3)) (fun _ _ _ ks ms => r = .inr (nI (ks.sum + ms.sum))) (r = .inr (-1)) (fun e => r = .inl e)) r ∧ σ' = σ) r' σ2 → r = r' ∧ σ1 = σ2 := fun r r' _ _ a b => ⟨(fun a b => mh_Bchg_u hG (fun _ _ _ _ _ c d => c.trans d.symm) (fun c d => c.trans d.symm) (fun _ c d => c.trans d.symm) a b) a.1 b.1, a.2.trans b.2.symm⟩
  have hc : ∀ (e : Nat) (σ1 : mh_Sg), (fun (r : Nat ⊕ Int32) (σ' : mh_Sg) => (fun r => mh_Bchg σ (xs (i + 1)) (xs (i + 2)) (xs (i + 3)) (fun _ _ _ ks ms => r = .inr (nI (ks.sum + ms.sum))) (r = .inr (-1)) (fun e => r = .inl e)) r ∧ σ' = σ) (.inl e) σ1 → (fun e => e = 1 ∨ e = 2) e := fun e σ1 q => by show e = 1 ∨ e = 2; first | (simp [mh_Bchg] at q; done) | (simp [mh_Bchg] at q; omega) | (simp [mh_Bchg] at q; grind)
  have h2 : ∀ (r : Nat ⊕ Int32) (σ1 : mh_Sg), (fun (r : Nat ⊕ Int32) (σ' : mh_Sg) => (fun r => mh_Bchg σ (xs (i + 1)) (xs (i + 2)) (xs (i + 3)) (fun _ _ _ ks ms => r = .inr (nI (ks.sum + ms.sum))) (r = .inr (-1)) (fun e => r = .inl e)) r ∧ σ' = σ) r σ1 → mh_St20 σ1 := fun r σ1 a => by rw [a.2]; exact h20
  have hfx : ∀ (e : Nat) (h' : mh_H), (fun e => e = 1 ∨ e = 2) e → (fun (k : Nat) (h2 : mh_H) => if k = 1 then (some ((1 : Int32), h2)) else if k = 2 then (some ((2 : Int32), h2)) else none) e h' = some (nI e, h') := fun e h' q => by
    have q : e = 1 ∨ e = 2 := q
    rcases q with rfl | rfl
    · exact if_pos rfl
    · exact (if_neg (by decide)).trans (if_pos rfl)
  have hf : ∀ (v : Int32) (h' : mh_H) (fl : Nat → Int64), h' o = some (.inl (1, 1, .inr (.inl fl))) → (fun (v3 : Int32) (h1 : mh_H) => (mh_sJ h1 o (0 : Int32) ((v3).toInt64)).bind fun h4 => some ((0 : Int32), h4)) v h' = some (0, mh_up h' o (.inl (1, 1, .inr (.inl (vp_updL fl 0 ((fun v => v.toInt64) v)))))) := fun v h' fl ho => by
    have s0 : ∀ w, mh_sJ h' o (0 : Int32) w = some (mh_up h' o (.inl (1, 1, .inr (.inl (vp_updL fl 0 w))))) := fun w => mh_sJ_eq (j := 0) ho (by omega) (by omega)
    show (mh_sJ h' o (0 : Int32) _).bind _ = _
    rw [s0, Option.bind_some]
  obtain ⟨k, hb, v, hd, σ1, F1, fs2, fs3, e1, e2, e3, e4, e5, e6, e7⟩ := mh_step (P := (fun e => e = 1 ∨ e = 2)) (g := (fun v => v.toInt64)) hL hK hM hu hc (fun _ q => q) h2 hfx hf
  have e1 : f_L_change_e (ad 1289) (xs (i + 1)) (xs (i + 2)) (xs (i + 3)) o h = some (k, hb) := e1
  refine ⟨hd, σ1, F1, ?_, e7⟩
  unfold f_L_k36
  simp only [r1, r2, r3, Option.bind_some]
  rw [mh_b2_eq e1, mh_cal_eq e2, mh_b2_eq e3, mh_cal_eq e4, mh_b2_eq e5]
  exact mh_tail e6
set_option maxRecDepth 10000 in
theorem mh_L_k37 (hL : mh_LI h ad bd o σ F) (hi : i + 5 ≤ N) (hN : N ≤ 2560) : ∃ h' σ' F', f_L_k37 xs N (ad 1289) (bd 0) o (nI i) h = some h' ∧ mh_LI h' ad bd o σ' F' := by
  have r1 : mh_sc xs N (nI i + (1 : Int32)) = some (xs (i + 1)) := mh_scr hi hN (j := 1) (by omega)
  have r2 : mh_sc xs N (nI i + (2 : Int32)) = some (xs (i + 2)) := mh_scr hi hN (j := 2) (by omega)
  have r3 : mh_sc xs N (nI i + (3 : Int32)) = some (xs (i + 3)) := mh_scr hi hN (j := 3) (by omega)
  have hG := hL.2.1.gd
  have h20 := hL.2.2.2.2.2.2
  have hK : ∃ r h1 σ1, f_X11_deal_e (ad 1289) (xs (i + 1)) (xs (i + 2)) (xs (i + 3)) h = some (r, h1) ∧ (mh_Sdeal σ (xs (i + 1)) (xs (i + 2)) (xs (i + 3))) r σ1 ∧ mh_CI h1 ad σ1 ∧ mh_frC ad h h1 := mh_K_deal hL.1 (xs (i + 1)) (xs (i + 2)) (xs (i + 3))
  have hM : ∀ h F, mh_RI h bd σ F → ∃ r v h' σ' F', (fun h => f_X12_deal_e (bd 0) (xs (i + 1)) (xs (i + 2)) (xs (i + 3)) h) h = some (v, h') ∧ (mh_Sdeal σ (xs (i + 1)) (xs (i + 2)) (xs (i + 3))) r σ' ∧ mh_an r v F' ∧ mh_RI h' bd σ' F' ∧ mh_frR bd h h' := fun h F hR => mh_M_deal hR (xs (i + 1)) (xs (i + 2)) (xs (i + 3))
  have hu : ∀ (r r' : Nat ⊕ Int32) (σ1 σ2 : mh_Sg), (mh_Sdeal σ (xs (i + 1)) (xs (i + 2)) (xs (i + 3))) r σ1 → (mh_Sdeal σ (xs (i + 1)) (xs (i + 2)) (xs (i + 3))) r' σ2 → r = r' ∧ σ1 = σ2 := fun _ _ _ _ a b => mh_Sdeal_u hG a b
  have hc : ∀ (e : Nat) (σ1 : mh_Sg), (mh_Sdeal σ (xs (i + 1)) (xs (i + 2)) (xs (i + 3))) (.inl e) σ1 → (fun e => e = 1 ∨ e = 2) e := fun e σ1 q => by show e = 1 ∨ e = 2; first | (simp [mh_Sdeal, mh_Bchg] at q; done) | (simp [mh_Sdeal, mh_Bchg] at q; omega) | (simp [mh_Sdeal, mh_Bchg] at q; grind)
  have h2 : ∀ (r : Nat ⊕ Int32) (σ1 : mh_Sg), (mh_Sdeal σ (xs (i + 1)) (xs (i + 2)) (xs (i + 3))) r σ1 → mh_St20 σ1 := fun r σ1 a => mh_20_deal h20 a
  have hfx : ∀ (e : Nat) (h' : mh_H), (fun e => e = 1 ∨ e = 2) e → (fun (k : Nat) (h2 : mh_H) => if k = 1 then (some ((1 : Int32), h2)) else if k = 2 then (some ((2 : Int32), h2)) else none) e h' = some (nI e, h') := fun e h' q => by
    have q : e = 1 ∨ e = 2 := q
    rcases q with rfl | rfl
    · exact if_pos rfl
    · exact (if_neg (by decide)).trans (if_pos rfl)
  have hf : ∀ (v : Int32) (h' : mh_H) (fl : Nat → Int64), h' o = some (.inl (1, 1, .inr (.inl fl))) → (fun (v3 : Int32) (h1 : mh_H) => (mh_sJ h1 o (0 : Int32) ((v3).toInt64)).bind fun h4 => some ((0 : Int32), h4)) v h' = some (0, mh_up h' o (.inl (1, 1, .inr (.inl (vp_updL fl 0 ((fun v => v.toInt64) v)))))) := fun v h' fl ho => by
    have s0 : ∀ w, mh_sJ h' o (0 : Int32) w = some (mh_up h' o (.inl (1, 1, .inr (.inl (vp_updL fl 0 w))))) := fun w => mh_sJ_eq (j := 0) ho (by omega) (by omega)
    show (mh_sJ h' o (0 : Int32) _).bind _ = _
    rw [s0, Option.bind_some]
  obtain ⟨k, hb, v, hd, σ1, F1, fs2, fs3, e1, e2, e3, e4, e5, e6, e7⟩ := mh_step (P := (fun e => e = 1 ∨ e = 2)) (g := (fun v => v.toInt64)) hL hK hM hu hc (fun _ q => q) h2 hfx hf
  have e1 : f_L_deal_e (ad 1289) (xs (i + 1)) (xs (i + 2)) (xs (i + 3)) o h = some (k, hb) := e1
  refine ⟨hd, σ1, F1, ?_, e7⟩
  unfold f_L_k37
  simp only [r1, r2, r3, Option.bind_some]
  rw [mh_b2_eq e1, mh_cal_eq e2, mh_b2_eq e3, mh_cal_eq e4, mh_b2_eq e5]
  exact mh_tail e6
end MhTurn
