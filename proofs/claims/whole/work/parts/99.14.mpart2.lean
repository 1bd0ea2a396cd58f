section MhModelP2
variable {h : mh_H} {bd : Nat → Nat} {σ : mh_Sg} {F : Nat → Int32}
theorem mh_r_both {x3 : Int32} {A B : List Nat} {f0 g : Nat → Int32} (hI : mh_Inj bd 99) (ho : h (bd 0) = some (.inr (12, mh_rf bd F))) (hf : h (bd 41) = some (.inl (2, 200001, .inl f0))) (hfv : ∀ t, t ≤ 200000 → mh_bp (f0 t) (mh_py A t)) (hg : h (bd 39) = some (.inl (2, 200001, .inl g))) (hgv : ∀ t, t ≤ 200000 → mh_bp (g t) (mh_py B t)) : ∃ h' f, f_X12_part_b53 mh_fu (bd 0) x3 0 h = f_X12_part_b98 (bd 0) x3 h' ∧ h' (bd 41) = some (.inl (2, 200001, .inl f)) ∧ mh_fr [bd 41] h h' ∧ ∀ t, t ≤ 200000 → mh_bp (f t) (mh_both A B t) := by
  have key := mh_wh (fun m (q : Nat × mh_H) => f_X12_part_b53 m (bd 0) x3 (nI q.1) q.2) (fun (r : mh_H) => f_X12_part_b98 (bd 0) x3 r) (fun q => q.1 ≤ 200001 ∧ mh_fr [bd 41] h q.2 ∧ ∃ f, q.2 (bd 41) = some (.inl (2, 200001, .inl f)) ∧ (∀ t, t < q.1 → mh_bp (f t) (mh_both A B t)) ∧ ∀ t, q.1 ≤ t → t ≤ 200000 → mh_bp (f t) (mh_py A t)) (fun q => 200001 - q.1) (fun r => mh_fr [bd 41] h r ∧ ∃ f, r (bd 41) = some (.inl (2, 200001, .inl f)) ∧ ∀ t, t ≤ 200000 → mh_bp (f t) (mh_both A B t))
    (fun m q hq => by
      obtain ⟨s, hh⟩ := q
      obtain ⟨q1, q2, f, q3, q4, q5⟩ := hq
      have q1 : s ≤ 200001 := q1
      have q2 : mh_fr [bd 41] h hh := q2
      have q3 : hh (bd 41) = some (.inl (2, 200001, .inl f)) := q3
      have q4 : ∀ t, t < s → mh_bp (f t) (mh_both A B t) := q4
      have q5 : ∀ t, s ≤ t → t ≤ 200000 → mh_bp (f t) (mh_py A t) := q5
      show (∃ s', _ ∧ _ ∧ f_X12_part_b53 (m + 1) (bd 0) x3 (nI s) hh = _) ∨ ∃ r, _ ∧ f_X12_part_b53 (m + 1) (bd 0) x3 (nI s) hh = _
      have ho' := (q2 (bd 0) (by simp [hI.ne (show 0 < 99 by omega) (show 41 < 99 by omega) (by omega)])).trans ho
      have hg' := (q2 (bd 39) (by simp [hI.ne (show 39 < 99 by omega) (show 41 < 99 by omega) (by omega)])).trans hg
      rw [f_X12_part_b53]
      by_cases c : s ≤ 200000
      · left
        have fin : ∀ v : Int32, (v = 0 ∨ v = 1) → mh_bp v (mh_both A B s) → ∃ s' : Nat × mh_H, (s'.1 ≤ 200001 ∧ mh_fr [bd 41] h s'.2 ∧ ∃ f, s'.2 (bd 41) = some (.inl (2, 200001, .inl f)) ∧ (∀ t, t < s'.1 → mh_bp (f t) (mh_both A B t)) ∧ ∀ t, s'.1 ≤ t → t ≤ 200000 → mh_bp (f t) (mh_py A t)) ∧ 200001 - s'.1 < 200001 - s ∧ f_X12_part_b91 (f_X12_part_b53 m) (bd 0) x3 (nI s) (bd 41) (nI s) v hh = f_X12_part_b53 m (bd 0) x3 (nI s'.1) s'.2 := fun v hv hb => by
          refine ⟨(s + 1, mh_up hh (bd 41) (.inl (2, 200001, .inl (upd f s v)))), ⟨by show s + 1 ≤ 200001; omega, q2.trans (mh_fr.up List.mem_cons_self), _, mh_up_eq _ _ _, fun t ht => ?_, fun t ht hn => ?_⟩, by show 200001 - (s + 1) < 200001 - s; omega, ?_⟩
          · have ht : t < s + 1 := ht
            by_cases e : t = s
            · rw [e, pk_us]; exact hb
            · rw [pk_un e]; exact q4 t (by omega)
          · have ht : s + 1 ≤ t := ht
            rw [pk_un (by omega)]; exact q5 t (by omega) hn
          · unfold f_X12_part_b91
            rw [mh_sZ_eq q3 (by omega) (by omega) hv, Option.bind_some, mh_nm_eq, mh_inc]
        have b1 := q5 s (Nat.le_refl _) c
        have b2 := hgv s c
        rw [if_neg (fun q => absurd ((mh_ltl (a := 200000) 200000 rfl (by omega) (by omega)).mp q) (by omega)), mh_gR_eq (k := 11) ho' rfl, Option.bind_some, Option.bind_some, mh_aI_eq q3 (show s < 200001 by omega) (by omega), Option.bind_some]
        by_cases c2 : f s = 0
        · rw [if_pos c2]
          exact fin 0 (Or.inl rfl) (mh_bp0 (fun q => b1.z.mp c2 q.1))
        · rw [if_neg c2, mh_gR_eq (k := 9) ho' rfl, Option.bind_some, mh_aI_eq hg' (show s < 200001 by omega) (by omega), Option.bind_some]
          by_cases c3 : g s = 0
          · rw [if_pos c3]
            exact fin 0 (Or.inl rfl) (mh_bp0 (fun q => b2.z.mp c3 q.2))
          · rw [if_neg c3]
            exact fin 1 (Or.inr rfl) (mh_bp1 ⟨Classical.byContradiction (fun q => c2 (b1.z.mpr q)), Classical.byContradiction (fun q => c3 (b2.z.mpr q))⟩)
      · right
        exact ⟨hh, ⟨q2, f, q3, fun t ht => q4 t (by omega)⟩, by rw [if_pos ((mh_ltl (a := 200000) 200000 rfl (by omega) (by omega)).mpr (by omega))]⟩)
    200001 mh_fu (0, h) (by show 200001 - 0 ≤ 200001; omega) ⟨Nat.zero_le _, mh_fr.rfl, f0, hf, fun i hi => absurd hi (Nat.not_lt_zero i), fun t _ ht => hfv t ht⟩ (mh_fuel _ (by omega))
  obtain ⟨h', ⟨z1, g, z2, z3⟩, z4⟩ := key
  exact ⟨h', g, z4, z2, z1, z3⟩
/-- the row of both changes -/
theorem mh_r_c4 (hR : mh_RI h bd σ F) {h' : mh_H} {f : Nat → Int32} (hf : h' (bd 41) = some (.inl (2, 200001, .inl f))) (hfr : mh_fr [bd 41] h h') : mh_RI h' bd σ F ∧ mh_frR bd h h' := by
  obtain ⟨f1, f2, f3, c1, c2, c3⟩ := hR.2 4 (by omega)
  have k1 : ∀ y, y < 99 → y ≠ 41 → h' (bd y) = h (bd y) := fun y hy e => hfr _ (by simp [hR.1.ne hy (show 41 < 99 by omega) e])
  exact hR.one 4 (by omega) (fun b hb => hfr b (by simp [hb 41 (by decide) (by decide)])) ⟨f1, f2, f, (k1 39 (by omega) (by omega)).trans c1, (k1 40 (by omega) (by omega)).trans c2, hf⟩
/-- gathered, and become -/
theorem mh_r_gab (hR : mh_RI h bd σ F) (z0 : F 0 = 0) {P : Nat → Prop} (P0 : P 0) (Pa : ∀ x y, P x → P y → P (x + y)) {fb : Nat → Int32} (hfb : h (bd 41) = some (.inl (2, 200001, .inl fb))) (hbv : ∀ t, t ≤ 200000 → mh_bp (fb t) (P t)) {p : Nat} (hp : p < 8) (K : Int32 → mh_H → Option (Int32 × mh_H)) (hK : ∀ v h, K v h = some (v, h)) : ∃ r v h' σ' F', (mh_b2 (mh_cal h (bd 0) 12 (f_X12_gather_e (bd 0) h)) fun v6 h5 => if v6 = 0 then K (-1 : Int32) h5 else mh_b2 (mh_cal h5 (bd 0) 12 (f_X12_becomes_e (bd 0) (nI p) h5)) fun v8 h7 => K v8 h7) = some (v, h') ∧ mh_Sbec σ p (mh_okq P) (mh_pk P 300) r σ' ∧ mh_an r v F' ∧ mh_RI h' bd σ' F' ∧ mh_frR bd h h' := by
  obtain ⟨r, h1, F1, y1, R1, y3, y4, f1⟩ := mh_r_gather hR P0 Pa hfb hbv
  rw [mh_cal_eq hR.ob, mh_b2_eq y1]
  rcases y4 with ⟨a1, a2, a3⟩ | ⟨a1, a2⟩
  · subst a1
    obtain ⟨h2, F2, v1, R2, v3, f2⟩ := mh_r_becomes R1 a3 (mh_pk_ms a2.1) hp
    rw [if_neg (by decide), mh_cal_eq R1.ob, mh_b2_eq v1, hK]
    exact ⟨.inr (nI (mh_pk P 300).length), _, h2, _, F2, rfl, Or.inl ⟨a2, rfl, rfl⟩, Or.inl ⟨rfl, (v3 0 (by omega) (by omega) (by omega)).trans ((y3 0 (by omega)).trans z0)⟩, R2, f1.trans f2⟩
  · subst a1
    rw [if_pos rfl, hK]
    exact ⟨.inr (-1), _, h1, σ, F1, rfl, Or.inr ⟨a2, rfl, rfl⟩, Or.inl ⟨rfl, (y3 0 (by omega)).trans z0⟩, R1, f1⟩
theorem mh_Sbec_iff {p : Nat} {ok ok' : Prop} {m : List Nat} {r : Nat ⊕ Int32} {σ' : mh_Sg} (e : ok ↔ ok') (h : mh_Sbec σ p ok m r σ') : mh_Sbec σ p ok' m r σ' := by
  rcases h with ⟨a, b⟩ | ⟨a, b⟩
  · exact Or.inl ⟨e.mp a, b⟩
  · exact Or.inr ⟨fun q => a (e.mpr q), b⟩
theorem mh_M_part (hR : mh_RI h bd σ F) (x1 x2 x3 : Int32) : ∃ r v h' σ' F', f_X12_part_e (bd 0) x1 x2 x3 h = some (v, h') ∧ mh_Spart σ x1 x2 x3 r σ' ∧ mh_an r v F' ∧ mh_RI h' bd σ' F' ∧ mh_frR bd h h' := by
  obtain ⟨h1, F1, p1, R1, z1, f1⟩ := mh_r_code hR
  unfold f_X12_part_e
  rw [p1, Option.bind_some]
  have bad : (∀ a b p, a < 8 → b < 8 → p < 8 → ¬ (x1 = nI a ∧ x2 = nI b ∧ x3 = nI p)) → ∃ r v h' σ' F', f_X12_part_b26 (bd 0) h1 = some (v, h') ∧ mh_Spart σ x1 x2 x3 r σ' ∧ mh_an r v F' ∧ mh_RI h' bd σ' F' ∧ mh_frR bd h h' := fun hb => by
    obtain ⟨h2, F2, y1, R2, z2, f2⟩ := mh_r_fl R1 1 (fun v h11 => some (v, h11))
    exact ⟨.inl 1, 0, h2, σ, F2, y1, Or.inr ⟨hb, rfl, rfl⟩, Or.inr ⟨1, rfl, z2⟩, R2, f1.trans f2⟩
  rcases mh_r_isMint (h := h1) x1 with ⟨a, a1, a2, a3⟩ | ⟨a1, a3⟩
  · subst a2
    rw [mh_b2_eq a3, if_neg (by decide)]
    rcases mh_r_isMint (h := h1) x2 with ⟨b, b1, b2, b3⟩ | ⟨b1, b3⟩
    · subst b2
      rw [mh_b2_eq b3, if_neg (by decide)]
      rcases mh_r_isMint (h := h1) x3 with ⟨p, c1, c2, c3⟩ | ⟨c1, c3⟩
      · subst c2
        have mA := mh_r_ms R1 a1
        have mB := mh_r_ms R1 b1
        obtain ⟨h2, g2, y1, y2, y3, y4, R2, f2⟩ := mh_r_spread R1 (w := 41) a1 (Or.inr rfl)
        obtain ⟨h3, g3, u1, u2, u3, u4, R3, f3⟩ := mh_r_spread R2 (w := 39) b1 (Or.inl rfl)
        have k3 : h3 (bd 41) = some (.inl (2, 200001, .inl g2)) := (u3 _ (by simp [hR.1.ne (show 41 < 99 by omega) (show 39 < 99 by omega) (by omega)])).trans y2
        obtain ⟨h4, g4, v1, v2, v3, v4⟩ := mh_r_both (x3 := nI p) R3.1 R3.ob k3 y4 u2 u4
        obtain ⟨R4, f4⟩ := mh_r_c4 R3 v2 v3
        obtain ⟨r, v, h5, σ', F5, w1, w2, w3, w4, w5⟩ := mh_r_gab R4 z1 (P := mh_both (mh_mi σ a) (mh_mi σ b)) ⟨mh_py0 _, mh_py0 _⟩ (fun x y hx hy => ⟨mh_py_add hx.1 hy.1, mh_py_add hx.2 hy.2⟩) v2 v4 c1 f_X12_part_b114 (fun _ _ => rfl)
        rw [mh_b2_eq c3, if_neg (by decide), mh_gR_eq (k := 11) R1.ob rfl, Option.bind_some, mh_cal_eq R1.ob, y1, Option.bind_some, mh_gR_eq (k := 9) R2.ob rfl, Option.bind_some, mh_cal_eq R2.ob, u1, Option.bind_some, mh_nm_eq, v1]
        refine ⟨r, v, h5, σ', F5, w1, Or.inl ⟨a, b, p, a1, b1, c1, rfl, rfl, rfl, mh_Sbec_iff ⟨fun q => ⟨q.1, fun s hs => mh_part_all mA mB q.2 s hs⟩, fun q => ⟨q.1, fun s _ hs => q.2 s hs⟩⟩ w2⟩, w3, w4, ((f1.trans f2).trans (f3.trans f4)).trans w5⟩
      · rw [mh_b2_eq c3, if_pos rfl]
        exact bad (fun a b p _ _ hp q => c1 p hp q.2.2)
    · rw [mh_b2_eq b3, if_pos rfl]
      exact bad (fun a b p _ hb _ q => b1 b hb q.2.1)
  · rw [mh_b2_eq a3, if_pos rfl]
    exact bad (fun a b p ha _ _ q => a1 a ha q.1)
theorem mh_r_facrow {x3 : Int32} {A : List Nat} {d : Nat} {f0 g : Nat → Int32} (hI : mh_Inj bd 99) (ho : h (bd 0) = some (.inr (12, mh_rf bd F))) (hA : mh_ms A) (d1 : 1 ≤ d) (d2 : d ≤ 300) (hf : h (bd 41) = some (.inl (2, 200001, .inl f0))) (hg : h (bd 39) = some (.inl (2, 200001, .inl g))) (hgv : ∀ t, t ≤ 200000 → mh_bp (g t) (mh_py A t)) : ∃ h' f, f_X12_factor_b62 mh_fu (bd 0) (nI d) x3 (nI (mh_gd A 0)) 0 h = f_X12_factor_b131 (bd 0) x3 h' ∧ h' (bd 41) = some (.inl (2, 200001, .inl f)) ∧ mh_fr [bd 41] h h' ∧ ∀ t, t ≤ 200000 → mh_bp (f t) (mh_py A (d * t)) := by
  have gb := mh_gd_b hA
  have far := fun (s : Nat) (hs : 100300 < s) => mh_far hA hs
  obtain ⟨e, ee⟩ : ∃ e, e = mh_gd A 0 := ⟨_, rfl⟩
  rw [← ee] at gb far ⊢
  have key := mh_wh (fun m (q : Nat × mh_H) => f_X12_factor_b62 m (bd 0) (nI d) x3 (nI e) (nI q.1) q.2) (fun (r : mh_H) => f_X12_factor_b131 (bd 0) x3 r) (fun q => q.1 ≤ 200001 ∧ mh_fr [bd 41] h q.2 ∧ ∃ f, q.2 (bd 41) = some (.inl (2, 200001, .inl f)) ∧ ∀ t, t < q.1 → mh_bp (f t) (mh_py A (d * t))) (fun q => 200001 - q.1) (fun r => mh_fr [bd 41] h r ∧ ∃ f, r (bd 41) = some (.inl (2, 200001, .inl f)) ∧ ∀ t, t ≤ 200000 → mh_bp (f t) (mh_py A (d * t)))
    (fun m q hq => by
      obtain ⟨s, hh⟩ := q
      obtain ⟨q1, q2, f, q3, q4⟩ := hq
      have q1 : s ≤ 200001 := q1
      have q2 : mh_fr [bd 41] h hh := q2
      have q3 : hh (bd 41) = some (.inl (2, 200001, .inl f)) := q3
      have q4 : ∀ t, t < s → mh_bp (f t) (mh_py A (d * t)) := q4
      show (∃ s', _ ∧ _ ∧ f_X12_factor_b62 (m + 1) (bd 0) (nI d) x3 (nI e) (nI s) hh = _) ∨ ∃ r, _ ∧ f_X12_factor_b62 (m + 1) (bd 0) (nI d) x3 (nI e) (nI s) hh = _
      have ho' := (q2 (bd 0) (by simp [hI.ne (show 0 < 99 by omega) (show 41 < 99 by omega) (by omega)])).trans ho
      have hg' := (q2 (bd 39) (by simp [hI.ne (show 39 < 99 by omega) (show 41 < 99 by omega) (by omega)])).trans hg
      rw [f_X12_factor_b62]
      by_cases c : s ≤ 200000
      · left
        have fin : ∀ v : Int32, (v = 0 ∨ v = 1) → mh_bp v (mh_py A (d * s)) → ∃ s' : Nat × mh_H, (s'.1 ≤ 200001 ∧ mh_fr [bd 41] h s'.2 ∧ ∃ f, s'.2 (bd 41) = some (.inl (2, 200001, .inl f)) ∧ ∀ t, t < s'.1 → mh_bp (f t) (mh_py A (d * t))) ∧ 200001 - s'.1 < 200001 - s ∧ f_X12_factor_b124 (f_X12_factor_b62 m) (bd 0) (nI d) x3 (nI e) (nI s) (bd 41) (nI s) v hh = f_X12_factor_b62 m (bd 0) (nI d) x3 (nI e) (nI s'.1) s'.2 := fun v hv hb => by
          refine ⟨(s + 1, mh_up hh (bd 41) (.inl (2, 200001, .inl (upd f s v)))), ⟨by show s + 1 ≤ 200001; omega, q2.trans (mh_fr.up List.mem_cons_self), _, mh_up_eq _ _ _, fun t ht => ?_⟩, by show 200001 - (s + 1) < 200001 - s; omega, ?_⟩
          · have ht : t < s + 1 := ht
            by_cases e : t = s
            · rw [e, pk_us]; exact hb
            · rw [pk_un e]; exact q4 t (by omega)
          · unfold f_X12_factor_b124
            rw [mh_sZ_eq q3 (by omega) (by omega) hv, Option.bind_some, mh_nm_eq, mh_inc]
        have dl := Nat.mul_le_mul d2 c
        rw [if_neg (fun q => absurd ((mh_ltl (a := 200000) 200000 rfl (by omega) (by omega)).mp q) (by omega)), mh_nm_eq, mh_gR_eq (k := 11) ho' rfl, Option.bind_some, nI_l (show d < 2 ^ 31 by omega), nI_l (show s < 2 ^ 31 by omega), lN_mul]
        by_cases c2 : 200000 < d * s
        · rw [if_pos (show 0 < lg_cmp (lN (d * s)) (200000 : Int64) from (mh_cgtN (b := 200000) (by omega) (by omega)).mpr c2)]
          have fr := far (d * s) (by omega)
          by_cases c3 : e = 0
          · rw [c3, if_pos (show nI 0 ≤ 0 by decide)]
            rw [c3] at fin
            exact fin 0 (Or.inl rfl) (mh_bp0 (fr.mpr (Or.inl c3)))
          · have z0 : ¬ (nI e).toInt64 = 0 := fun q => by
              rw [nI_l (by omega)] at q
              exact absurd ((mh_lN_inj (b := 0) (by omega) (by omega)).mp q) (by omega)
            have er : mh_lrem (lN (d * s)) (lN e) = lN (d * s % e) := pk_lRem (by omega) (by omega) (by omega)
            have ml := Nat.mod_lt (d * s) (show 0 < e by omega)
            rw [if_neg (nI_nle (by omega) (by omega)), mh_nz_eq z0, nI_l (by omega), er]
            by_cases c4 : d * s % e = 0
            · rw [if_pos (show lg_cmp (lN (d * s % e)) (0 : Int64) = 0 from (mh_ceqN (b := 0) (by omega) (by omega)).mpr c4)]
              exact fin 1 (Or.inr rfl) (mh_bp1 (Classical.byContradiction (fun q => (fr.mp q).elim c3 (fun q => q c4))))
            · rw [if_neg (fun q : lg_cmp (lN (d * s % e)) (0 : Int64) = 0 => c4 ((mh_ceqN (b := 0) (by omega) (by omega)).mp q))]
              exact fin 0 (Or.inl rfl) (mh_bp0 (fr.mpr (Or.inr c4)))
        · have b2 := hgv (d * s) (by omega)
          rw [if_neg (fun q : 0 < lg_cmp (lN (d * s)) (200000 : Int64) => c2 ((mh_cgtN (b := 200000) (by omega) (by omega)).mp q)), mh_gR_eq (k := 9) ho' rfl, Option.bind_some, lN_i, mh_aI_eq hg' (show d * s < 200001 by omega) (by omega), Option.bind_some]
          exact fin _ (b2.elim (fun q => Or.inr q.2) (fun q => Or.inl q.2)) b2
      · right
        exact ⟨hh, ⟨q2, f, q3, fun t ht => q4 t (by omega)⟩, by rw [if_pos ((mh_ltl (a := 200000) 200000 rfl (by omega) (by omega)).mpr (by omega))]⟩)
    200001 mh_fu (0, h) (by show 200001 - 0 ≤ 200001; omega) ⟨Nat.zero_le _, mh_fr.rfl, f0, hf, fun i hi => absurd hi (Nat.not_lt_zero i)⟩ (mh_fuel _ (by omega))
  obtain ⟨h', ⟨z1, g, z2, z3⟩, z4⟩ := key
  exact ⟨h', g, z4, z2, z1, z3⟩
theorem mh_M_factor (hR : mh_RI h bd σ F) (x1 x2 x3 : Int32) : ∃ r v h' σ' F', f_X12_factor_e (bd 0) x1 x2 x3 h = some (v, h') ∧ mh_Sfac σ x1 x2 x3 r σ' ∧ mh_an r v F' ∧ mh_RI h' bd σ' F' ∧ mh_frR bd h h' := by
  obtain ⟨h1, F1, p1, R1, z1, f1⟩ := mh_r_code hR
  unfold f_X12_factor_e
  rw [p1, Option.bind_some]
  have bad : (∀ a p, a < 8 → p < 8 → ¬ (x1 = nI a ∧ x3 = nI p)) → ∃ r v h' σ' F', f_X12_factor_b19 (bd 0) h1 = some (v, h') ∧ mh_Sfac σ x1 x2 x3 r σ' ∧ mh_an r v F' ∧ mh_RI h' bd σ' F' ∧ mh_frR bd h h' := fun hb => by
    obtain ⟨h2, F2, y1, R2, z2, f2⟩ := mh_r_fl R1 1 (fun v h11 => some (v, h11))
    exact ⟨.inl 1, 0, h2, σ, F2, y1, Or.inr ⟨hb, rfl, rfl⟩, Or.inr ⟨1, rfl, z2⟩, R2, f1.trans f2⟩
  rcases mh_r_isMint (h := h1) x1 with ⟨a, a1, a2, a3⟩ | ⟨a1, a3⟩
  · subst a2
    rw [mh_b2_eq a3, if_neg (by decide)]
    rcases mh_r_isMint (h := h1) x3 with ⟨p, c1, c2, c3⟩ | ⟨c1, c3⟩
    · subst c2
      rw [mh_b2_eq c3, if_neg (by decide)]
      have bad2 : (∀ d, 1 ≤ d → d ≤ 300 → x2 ≠ nI d) → ∃ r v h' σ' F', f_X12_factor_b37 (bd 0) h1 = some (v, h') ∧ mh_Sfac σ (nI a) x2 (nI p) r σ' ∧ mh_an r v F' ∧ mh_RI h' bd σ' F' ∧ mh_frR bd h h' := fun hb => by
        obtain ⟨h2, F2, y1, R2, z2, f2⟩ := mh_r_fl R1 2 (fun v h11 => some (v, h11))
        exact ⟨.inl 2, 0, h2, σ, F2, y1, Or.inl ⟨a, p, a1, c1, rfl, rfl, Or.inr ⟨hb, rfl, rfl⟩⟩, Or.inr ⟨2, rfl, z2⟩, R2, f1.trans f2⟩
      rcases mh_sgn x2 with ⟨q1, q2⟩ | ⟨q1, d, q2, q3⟩
      · rw [if_pos (Int32.lt_trans q1 (by decide))]
        exact bad2 (fun d _ hd => q2 d (by omega))
      · subst q3
        by_cases d0 : d < 1
        · rw [if_pos ((mh_ltr (b := 1) 1 rfl (by omega) (by omega)).mpr d0)]
          refine bad2 (fun e e1 e2 q => ?_)
          have := (nI_eq (by omega) (by omega)).mp q
          omega
        · rw [if_neg (fun q => d0 ((mh_ltr (b := 1) 1 rfl (by omega) (by omega)).mp q))]
          by_cases d3 : d ≤ 300
          · have mA := mh_r_ms R1 a1
            obtain ⟨h2, g2, y1, y2, y3, y4, R2, f2⟩ := mh_r_spread R1 (w := 39) a1 (Or.inl rfl)
            obtain ⟨g41, e1, e2, k1, k2, k3⟩ := R2.2 4 (by omega)
            obtain ⟨h3, g3, v1, v2, v3, v4⟩ := mh_r_facrow (x3 := nI p) R2.1 R2.ob mA (show 1 ≤ d by omega) d3 k3 y2 y4
            obtain ⟨R3, f3⟩ := mh_r_c4 R2 v2 v3
            obtain ⟨r, v, h5, σ', F5, w1, w2, w3, w4, w5⟩ := mh_r_gab R3 z1 (P := fun s => mh_py (mh_mi σ a) (d * s)) (by show mh_py (mh_mi σ a) (d * 0); rw [Nat.mul_zero]; exact mh_py0 _) (fun x y hx hy => by show mh_py (mh_mi σ a) (d * (x + y)); rw [Nat.mul_add]; exact mh_py_add hx hy) v2 v4 c1 f_X12_factor_b147 (fun _ _ => rfl)
            rw [if_pos ((mh_ler (b := 300) 300 rfl (by omega) (by omega)).mpr d3), mh_gR_eq (k := 9) R1.ob rfl, Option.bind_some, mh_cal_eq R1.ob, y1, Option.bind_some, mh_cal_eq R2.ob, mh_b2_eq (mh_r_divisorOf R2 a1), mh_nm_eq, v1]
            refine ⟨r, v, h5, σ', F5, w1, Or.inl ⟨a, p, a1, c1, rfl, rfl, Or.inl ⟨d, by omega, d3, rfl, mh_Sbec_iff ⟨fun q => q.1, fun q => ⟨q, fun s _ hs => mh_fac_all mA (by omega) s s (Nat.le_refl _) hs⟩⟩ w2⟩⟩, w3, w4, ((f1.trans f2).trans f3).trans w5⟩
          · rw [if_neg (fun q => d3 ((mh_ler (b := 300) 300 rfl (by omega) (by omega)).mp q))]
            refine bad2 (fun e e1 e2 q => ?_)
            have := (nI_eq (by omega) (by omega)).mp q
            omega
    · rw [mh_b2_eq c3, if_pos rfl]
      exact bad (fun a p _ hp q => c1 p hp q.2)
  · rw [mh_b2_eq a3, if_pos rfl]
    exact bad (fun a p ha _ q => a1 a ha q.1)
end MhModelP2
