section MhModelS
variable {h : mh_H} {bd : Nat → Nat} {σ : mh_Sg} {F : Nat → Int32}
theorem mh_r_sp0 {w : Nat} {x1 : Int32} {g0 : Nat → Int32} (hb : h (bd w) = some (.inl (2, 200001, .inl g0))) : ∃ h' g, f_X12_spread_b2 mh_fu (bd 0) x1 (bd w) 0 h = f_X12_spread_b26 (bd 0) x1 (bd w) h' ∧ h' (bd w) = some (.inl (2, 200001, .inl g)) ∧ mh_fr [bd w] h h' ∧ ∀ t, t ≤ 200000 → mh_bp (g t) (mh_py [] t) := by
  have key := mh_wh (fun m (q : Nat × mh_H) => f_X12_spread_b2 m (bd 0) x1 (bd w) (nI q.1) q.2) (fun (r : mh_H) => f_X12_spread_b26 (bd 0) x1 (bd w) r) (fun q => q.1 ≤ 200001 ∧ mh_fr [bd w] h q.2 ∧ ∃ g, q.2 (bd w) = some (.inl (2, 200001, .inl g)) ∧ ∀ t, t < q.1 → mh_bp (g t) (mh_py [] t)) (fun q => 200001 - q.1) (fun r => mh_fr [bd w] h r ∧ ∃ g, r (bd w) = some (.inl (2, 200001, .inl g)) ∧ ∀ t, t ≤ 200000 → mh_bp (g t) (mh_py [] t))
    (fun m q hq => by
      obtain ⟨s, hh⟩ := q
      obtain ⟨q1, q2, g, q3, q4⟩ := hq
      have q1 : s ≤ 200001 := q1
      have q2 : mh_fr [bd w] h hh := q2
      have q3 : hh (bd w) = some (.inl (2, 200001, .inl g)) := q3
      have q4 : ∀ t, t < s → mh_bp (g t) (mh_py [] t) := q4
      show (∃ s', _ ∧ _ ∧ f_X12_spread_b2 (m + 1) (bd 0) x1 (bd w) (nI s) hh = _) ∨ ∃ r, _ ∧ f_X12_spread_b2 (m + 1) (bd 0) x1 (bd w) (nI s) hh = _
      rw [f_X12_spread_b2]
      by_cases c : s ≤ 200000
      · left
        have fin : ∀ v : Int32, (v = 0 ∨ v = 1) → mh_bp v (mh_py [] s) → ∃ s' : Nat × mh_H, (s'.1 ≤ 200001 ∧ mh_fr [bd w] h s'.2 ∧ ∃ g, s'.2 (bd w) = some (.inl (2, 200001, .inl g)) ∧ ∀ t, t < s'.1 → mh_bp (g t) (mh_py [] t)) ∧ 200001 - s'.1 < 200001 - s ∧ f_X12_spread_b19 (f_X12_spread_b2 m) (bd 0) x1 (bd w) (nI s) (bd w) (nI s) v hh = f_X12_spread_b2 m (bd 0) x1 (bd w) (nI s'.1) s'.2 := fun v hv hb => by
          refine ⟨(s + 1, mh_up hh (bd w) (.inl (2, 200001, .inl (upd g s v)))), ⟨by show s + 1 ≤ 200001; omega, q2.trans (mh_fr.up List.mem_cons_self), _, mh_up_eq _ _ _, fun t ht => ?_⟩, by show 200001 - (s + 1) < 200001 - s; omega, ?_⟩
          · have ht : t < s + 1 := ht
            by_cases e : t = s
            · rw [e, pk_us]; exact hb
            · rw [pk_un e]; exact q4 t (by omega)
          · unfold f_X12_spread_b19
            rw [mh_sZ_eq q3 (by omega) (by omega) hv, Option.bind_some, mh_nm_eq, mh_inc]
        rw [if_neg (fun q => absurd ((mh_ltl (a := 200000) 200000 rfl (by omega) (by omega)).mp q) (by omega))]
        have zb := mh_bp_z0 s
        by_cases e : s = 0
        · rw [if_pos e] at zb
          rw [if_pos ((mh_eqr (b := 0) 0 rfl (by omega) (by omega)).mpr e)]
          exact fin 1 (Or.inr rfl) zb
        · rw [if_neg e] at zb
          rw [if_neg (fun q => e ((mh_eqr (b := 0) 0 rfl (by omega) (by omega)).mp q))]
          exact fin 0 (Or.inl rfl) zb
      · right
        exact ⟨hh, ⟨q2, g, q3, fun t ht => q4 t (by omega)⟩, by rw [if_pos ((mh_ltl (a := 200000) 200000 rfl (by omega) (by omega)).mpr (by omega))]⟩)
    200001 mh_fu (0, h) (by show 200001 - 0 ≤ 200001; omega) ⟨Nat.zero_le _, mh_fr.rfl, g0, hb, fun i hi => absurd hi (Nat.not_lt_zero i)⟩ (mh_fuel _ (by omega))
  obtain ⟨h', ⟨z1, g, z2, z3⟩, z4⟩ := key
  exact ⟨h', g, z4, z2, z1, z3⟩
theorem mh_r_sp1 (k28 : Nat → Int32 → Nat → Int32 → mh_H → Option mh_H) {w : Nat} {x1 x3 : Int32} {g0 : Nat → Int32} {K : List Nat} {c : Nat} (hb : h (bd w) = some (.inl (2, 200001, .inl g0))) (hK : ∀ t, t ≤ 200000 → mh_bp (g0 t) (mh_py K t)) (h1 : 1 ≤ c) (h2 : c ≤ 300) : ∃ h' g, f_X12_spread_b58 k28 mh_fu (bd 0) x1 (bd w) x3 (nI c) (nI c) h = f_X12_spread_b97 k28 (bd 0) x1 (bd w) x3 h' ∧ h' (bd w) = some (.inl (2, 200001, .inl g)) ∧ mh_fr [bd w] h h' ∧ ∀ t, t ≤ 200000 → mh_bp (g t) (mh_py (K ++ [c]) t) := by
  have key := mh_wh (fun m (q : Nat × mh_H) => f_X12_spread_b58 k28 m (bd 0) x1 (bd w) x3 (nI c) (nI q.1) q.2) (fun (r : mh_H) => f_X12_spread_b97 k28 (bd 0) x1 (bd w) x3 r) (fun q => c ≤ q.1 ∧ q.1 ≤ 200001 ∧ mh_fr [bd w] h q.2 ∧ ∃ g, q.2 (bd w) = some (.inl (2, 200001, .inl g)) ∧ mh_prw 200000 K c q.1 g) (fun q => 200001 - q.1) (fun r => mh_fr [bd w] h r ∧ ∃ g, r (bd w) = some (.inl (2, 200001, .inl g)) ∧ ∀ t, t ≤ 200000 → mh_bp (g t) (mh_py (K ++ [c]) t))
    (fun m q hq => by
      obtain ⟨s, hh⟩ := q
      obtain ⟨q0, q1, q2, g, q3, q4⟩ := hq
      have q0 : c ≤ s := q0
      have q1 : s ≤ 200001 := q1
      have q2 : mh_fr [bd w] h hh := q2
      have q3 : hh (bd w) = some (.inl (2, 200001, .inl g)) := q3
      have q4 : mh_prw 200000 K c s g := q4
      show (∃ s', _ ∧ _ ∧ f_X12_spread_b58 k28 (m + 1) (bd 0) x1 (bd w) x3 (nI c) (nI s) hh = _) ∨ ∃ r, _ ∧ f_X12_spread_b58 k28 (m + 1) (bd 0) x1 (bd w) x3 (nI c) (nI s) hh = _
      rw [f_X12_spread_b58]
      by_cases c1 : s ≤ 200000
      · left
        have fin : ∀ v : Int32, (v = 0 ∨ v = 1) → mh_bp v (mh_py K s ∨ mh_py (K ++ [c]) (s - c)) → ∃ s' : Nat × mh_H, (c ≤ s'.1 ∧ s'.1 ≤ 200001 ∧ mh_fr [bd w] h s'.2 ∧ ∃ g, s'.2 (bd w) = some (.inl (2, 200001, .inl g)) ∧ mh_prw 200000 K c s'.1 g) ∧ 200001 - s'.1 < 200001 - s ∧ f_X12_spread_b90 (f_X12_spread_b58 k28 m) (bd 0) x1 (bd w) x3 (nI c) (nI s) (bd w) (nI s) v hh = f_X12_spread_b58 k28 m (bd 0) x1 (bd w) x3 (nI c) (nI s'.1) s'.2 := fun v hv hb => by
          refine ⟨(s + 1, mh_up hh (bd w) (.inl (2, 200001, .inl (upd g s v)))), ⟨by show c ≤ s + 1; omega, by show s + 1 ≤ 200001; omega, q2.trans (mh_fr.up List.mem_cons_self), _, mh_up_eq _ _ _, mh_prw_s q0 q4 hb⟩, by show 200001 - (s + 1) < 200001 - s; omega, ?_⟩
          unfold f_X12_spread_b90
          rw [mh_sZ_eq q3 (by omega) (by omega) hv, Option.bind_some, mh_nm_eq, mh_inc]
        have b1 := q4.2 s (Nat.le_refl _) c1
        have b2 := q4.1 (s - c) (by omega) (by omega)
        rw [if_neg (fun q => absurd ((mh_ltl (a := 200000) 200000 rfl (by omega) (by omega)).mp q) (by omega)), mh_aI_eq q3 (show s < 200001 by omega) (by omega), Option.bind_some]
        by_cases c2 : g s = 0
        · rw [if_pos c2, pk_sub q0, mh_aI_eq q3 (show s - c < 200001 by omega) (by omega), Option.bind_some]
          by_cases c3 : g (s - c) = 0
          · rw [if_pos c3]
            exact fin 0 (Or.inl rfl) (mh_bp_or0 b1 b2 c2 c3)
          · rw [if_neg c3]
            exact fin 1 (Or.inr rfl) (mh_bp_or1 (x := 0) b2 c3)
        · rw [if_neg c2]
          exact fin 1 (Or.inr rfl) (mh_bp_or2 b1 c2)
      · right
        exact ⟨hh, ⟨q2, g, q3, fun t ht => q4.1 t (by omega) ht⟩, by rw [if_pos ((mh_ltl (a := 200000) 200000 rfl (by omega) (by omega)).mpr (by omega))]⟩)
    200001 mh_fu (c, h) (by show 200001 - c ≤ 200001; omega) ⟨Nat.le_refl _, by show c ≤ 200001; omega, mh_fr.rfl, g0, hb, mh_prw_0 hK⟩ (mh_fuel _ (by omega))
  obtain ⟨h', ⟨z1, g, z2, z3⟩, z4⟩ := key
  exact ⟨h', g, z4, z2, z1, z3⟩
/-- a row says what a mint pays -/
theorem mh_r_spread (hR : mh_RI h bd σ F) {p w : Nat} (hp : p < 8) (hw : w = 39 ∨ w = 41) : ∃ h' g, f_X12_spread_e (bd 0) (nI p) (bd w) h = some h' ∧ h' (bd w) = some (.inl (2, 200001, .inl g)) ∧ mh_fr [bd w] h h' ∧ (∀ t, t ≤ 200000 → mh_bp (g t) (mh_py (mh_mi σ p) t)) ∧ mh_RI h' bd σ F ∧ mh_frR bd h h' := by
  obtain ⟨g, hg, hgw⟩ := hR.2 1 (by omega)
  obtain ⟨w1, w2, w3, w4, _⟩ := hgw p hp
  obtain ⟨f1, f2, f3, c1, c2, c3⟩ := hR.2 4 (by omega)
  have hI := hR.1
  have ho := hR.ob
  have w99 : w < 99 := by omega
  obtain ⟨g0, hg0⟩ : ∃ g0, h (bd w) = some (.inl (2, 200001, .inl g0)) := by
    rcases hw with q | q
    · rw [q]; exact ⟨f1, c1⟩
    · rw [q]; exact ⟨f3, c3⟩
  obtain ⟨h1, g1, y1, y2, y3, y4⟩ := mh_r_sp0 (x1 := nI p) hg0
  obtain ⟨cs, ecs⟩ : ∃ cs, cs = mh_mi σ p := ⟨_, rfl⟩
  rw [← ecs] at w1 w3 w4 ⊢
  have hl := w1.1.1
  have key := mh_wh (fun m (q : Nat × mh_H) => f_X12_spread_b28 m (bd 0) (nI p) (bd w) (nI (q.1 + 1)) q.2) (fun (r : mh_H) => some r) (fun q => q.1 ≤ cs.length ∧ mh_fr [bd w] h q.2 ∧ ∃ g, q.2 (bd w) = some (.inl (2, 200001, .inl g)) ∧ ∀ t, t ≤ 200000 → mh_bp (g t) (mh_py (cs.take q.1) t)) (fun q => cs.length - q.1) (fun r => mh_fr [bd w] h r ∧ ∃ g, r (bd w) = some (.inl (2, 200001, .inl g)) ∧ ∀ t, t ≤ 200000 → mh_bp (g t) (mh_py cs t))
    (fun m q hq => by
      obtain ⟨k, hh⟩ := q
      obtain ⟨q1, q2, g', q3, q4⟩ := hq
      have q1 : k ≤ cs.length := q1
      have q2 : mh_fr [bd w] h hh := q2
      have q3 : hh (bd w) = some (.inl (2, 200001, .inl g')) := q3
      have q4 : ∀ t, t ≤ 200000 → mh_bp (g' t) (mh_py (cs.take k) t) := q4
      show (∃ s', _ ∧ _ ∧ f_X12_spread_b28 (m + 1) (bd 0) (nI p) (bd w) (nI (k + 1)) hh = _) ∨ ∃ r, _ ∧ f_X12_spread_b28 (m + 1) (bd 0) (nI p) (bd w) (nI (k + 1)) hh = _
      have ho' := (q2 (bd 0) (by simp [hI.ne (show 0 < 99 by omega) w99 (by omega)])).trans ho
      have hg' := (q2 (bd 1) (by simp [hI.ne (show 1 < 99 by omega) w99 (by omega)])).trans hg
      rw [f_X12_spread_b28, mh_gR_eq (k := 1) ho' rfl, Option.bind_some, mh_b2_eq mh_r_mintAt, mh_aI_eq hg' (show 13 * p < 304 by omega) (by omega), Option.bind_some, w3]
      by_cases c : k < cs.length
      · left
        have cb := w1.1.get c
        have e1 : nI (13 * p) + nI (k + 1) = nI (13 * p + 1 + k) := by rw [nI_add]; congr 1; omega
        obtain ⟨h2, g2, u1, u2, u3, u4⟩ := mh_r_sp1 (h := hh) (f_X12_spread_b28 m) (x1 := nI p) (x3 := nI (k + 1)) q3 q4 cb.1 cb.2
        refine ⟨(k + 1, h2), ⟨c, q2.trans u3, g2, u2, ?_⟩, by show cs.length - (k + 1) < cs.length - k; omega, ?_⟩
        · show ∀ t, t ≤ 200000 → mh_bp (g2 t) (mh_py (cs.take (k + 1)) t)
          rw [mh_take_s c]
          exact u4
        · rw [if_neg (fun q => absurd ((nI_ltI (by omega) (by omega)).mp q) (by omega)), mh_gR_eq (k := 1) ho' rfl, Option.bind_some, mh_b2_eq mh_r_mintAt, e1, mh_aI_eq hg' (show 13 * p + 1 + k < 304 by omega) (by omega), Option.bind_some, w4 k c, u1]
          unfold f_X12_spread_b97
          rw [mh_nm_eq, mh_inc]
      · right
        have e : k = cs.length := by omega
        subst e
        exact ⟨hh, ⟨q2, g', q3, by rw [List.take_length] at q4; exact q4⟩, by rw [if_pos ((nI_ltI (by omega) (by omega)).mpr (by omega))]; rfl⟩)
    12 mh_fu (0, h1) (by show cs.length - 0 ≤ 12; omega) ⟨Nat.zero_le _, y3, g1, y2, y4⟩ (mh_fuel _ (by omega))
  obtain ⟨h', ⟨z1, g', z2, z3⟩, z4⟩ := key
  have z4 : f_X12_spread_b28 mh_fu (bd 0) (nI p) (bd w) 1 h1 = some h' := z4
  have kq : ∀ y, y < 99 → y ≠ w → h' (bd y) = h (bd y) := fun y hy e => z1 _ (by simp [hI.ne hy w99 e])
  obtain ⟨R2, fR⟩ := hR.one (h' := h') 4 (by omega) (fun b hb => z1 b (by simp [hb w (by show 39 ≤ w; omega) (by show w < 42; omega)])) (by
    rcases hw with q | q
    · subst q
      exact ⟨g', f2, f3, z2, (kq 40 (by omega) (by omega)).trans c2, (kq 41 (by omega) (by omega)).trans c3⟩
    · subst q
      exact ⟨f1, f2, g', (kq 39 (by omega) (by omega)).trans c1, (kq 40 (by omega) (by omega)).trans c2, z2⟩)
  refine ⟨h', g', ?_, z2, z1, z3, R2, fR⟩
  unfold f_X12_spread_e
  rw [mh_nm_eq, y1]
  unfold f_X12_spread_b26
  rw [mh_nm_eq, z4]
end MhModelS
