/-- a purse as it stands in the row of now -/
def mh_Pv (g : Nat → Int32) (a : Nat) (c n : List Nat) : Prop := g a = nI c.length ∧ ∀ i, i < c.length → g (a + 1 + i) = nI (c.getD i 0) ∧ g (a + 13 + i) = nI (n.getD i 0)
theorem mh_nw_drop {cs ks cT : List Nat} {k : Nat} (hk : k < cs.length) (hl : ks.length = cs.length) : mh_nw (cs.drop k) (ks.drop k) cT = (if ks.getD k 0 ≠ 0 ∧ cs.getD k 0 ∉ cT then 1 else 0) + mh_nw (cs.drop (k + 1)) (ks.drop (k + 1)) cT := by
  rw [mh_drop_s hk, mh_drop_s (show k < ks.length by omega)]
  rfl
theorem mh_nw_end {cs ks cT : List Nat} : mh_nw (cs.drop cs.length) ks cT = 0 := by
  rw [List.drop_length]
  cases ks <;> rfl
section MhModelFi
variable {h : mh_H} {bd : Nat → Nat} {σ : mh_Sg} {F : Nat → Int32}
theorem mh_r_fits {T Q x y : Nat} {g fx fy : Nat → Int32} {cT nT mT gs cF nF ks : List Nat} (hT8 : T < 8) (hQ8 : Q < 8) (ho : h (bd 0) = some (.inr (12, mh_rf bd F))) (hg : h (bd 1) = some (.inl (0, 304, .inl g))) (PT : mh_Pv g (104 + 25 * T) cT nT) (PF : mh_Pv g (104 + 25 * Q) cF nF) (mTs : mh_ms cT) (mFs : mh_ms cF) (hx : h (bd x) = some (.inl (0, 12, .inl fx))) (hxv : ∀ i, i < cF.length → fx i = nI (ks.getD i 0)) (hy : h (bd y) = some (.inl (0, 12, .inl fy))) (hyv : ∀ i, i < cT.length → fy i = nI (gs.getD i 0)) (hkl : ks.length = cF.length) (hk20 : ∀ i, ks.getD i 0 ≤ 20) (hn20 : ∀ i, nT.getD i 0 ≤ 20) (hgn : ∀ i, i < cT.length → gs.getD i 0 ≤ nT.getD i 0) (hmT : ∀ i, i < cT.length → mT.getD i 0 = nT.getD i 0 - gs.getD i 0) : (mh_fit cF ks cT mT ∧ f_X12_fits_e (bd 0) (nI T) (nI Q) (bd x) (bd y) h = some (1, h)) ∨ (¬ mh_fit cF ks cT mT ∧ f_X12_fits_e (bd 0) (nI T) (nI Q) (bd x) (bd y) h = some (0, h)) := by
  have lT := mTs.1.1
  have lF := mFs.1.1
  -- where a value stands
  have find : ∀ (k156 : Nat → Nat → Nat → Int32 → Int32 → Int32 → Int32 → Int32 → mh_H → Option (Int32 × mh_H)) (x7 x8 : Int32) (k : Nat), k < cF.length → ∃ i, ((i = cT.length ∧ cF.getD k 0 ∉ cT) ∨ (i < cT.length ∧ cT.getD i 0 = cF.getD k 0)) ∧ f_X12_fits_b52 k156 mh_fu (bd 0) (bd x) (bd y) (nI (104 + 25 * T)) (nI (104 + 25 * Q)) x7 x8 (nI k) 0 h = f_X12_fits_b97 k156 (bd 0) (bd x) (bd y) (nI (104 + 25 * T)) (nI (104 + 25 * Q)) x7 x8 (nI k) (nI i) h := fun k156 x7 x8 k hk => by
    have cb := mFs.1.get hk
    have key := mh_wh (fun m (i : Nat) => f_X12_fits_b52 k156 m (bd 0) (bd x) (bd y) (nI (104 + 25 * T)) (nI (104 + 25 * Q)) x7 x8 (nI k) (nI i) h) (fun (i : Nat) => f_X12_fits_b97 k156 (bd 0) (bd x) (bd y) (nI (104 + 25 * T)) (nI (104 + 25 * Q)) x7 x8 (nI k) (nI i) h) (fun i => i ≤ cT.length ∧ ∀ t, t < i → cT.getD t 0 ≠ cF.getD k 0) (fun i => cT.length - i) (fun i => (i = cT.length ∧ cF.getD k 0 ∉ cT) ∨ (i < cT.length ∧ cT.getD i 0 = cF.getD k 0))
      (fun m i hi => by
        obtain ⟨q1, q2⟩ := hi
        show (∃ s', _ ∧ _ ∧ f_X12_fits_b52 k156 (m + 1) (bd 0) (bd x) (bd y) (nI (104 + 25 * T)) (nI (104 + 25 * Q)) x7 x8 (nI k) (nI i) h = _) ∨ ∃ r, _ ∧ f_X12_fits_b52 k156 (m + 1) (bd 0) (bd x) (bd y) (nI (104 + 25 * T)) (nI (104 + 25 * Q)) x7 x8 (nI k) (nI i) h = _
        rw [f_X12_fits_b52, mh_gR_eq (k := 1) ho rfl, Option.bind_some, mh_aI_eq hg (show 104 + 25 * T < 304 by omega) (by omega), Option.bind_some, PT.1]
        by_cases c : i < cT.length
        · have e1 : nI (104 + 25 * T) + (1 : Int32) + nI i = nI (104 + 25 * T + 1 + i) := by rw [nI_1, nI_add]
          have e2 : nI (104 + 25 * Q) + (1 : Int32) + nI k = nI (104 + 25 * Q + 1 + k) := by rw [nI_1, nI_add]
          have tb := mTs.1.get c
          rw [if_neg (fun z => absurd ((nI_leI (by omega) (by omega)).mp z) (by omega)), Option.bind_some, e1, mh_aI_eq hg (show 104 + 25 * T + 1 + i < 304 by omega) (by omega), Option.bind_some, Option.bind_some, e2, mh_aI_eq hg (show 104 + 25 * Q + 1 + k < 304 by omega) (by omega), Option.bind_some, (PT.2 i c).1, (PF.2 k hk).1]
          by_cases e : cT.getD i 0 = cF.getD k 0
          · right
            exact ⟨i, Or.inr ⟨c, e⟩, by rw [if_pos (by rw [e])]⟩
          · left
            refine ⟨i + 1, ⟨c, fun t ht => ?_⟩, by omega, by rw [if_neg (fun z => e ((nI_eq (by omega) (by omega)).mp z)), mh_nm_eq, mh_inc]⟩
            by_cases z : t = i
            · rw [z]; exact e
            · exact q2 t (by omega)
        · right
          have e : i = cT.length := by omega
          refine ⟨i, Or.inl ⟨e, fun z => ?_⟩, by rw [if_pos ((nI_leI (by omega) (by omega)).mpr (by omega))]⟩
          obtain ⟨t, t1, t2⟩ := mh_mem_get z
          exact q2 t (by omega) t2)
      12 mh_fu 0 (by omega) ⟨Nat.zero_le _, fun t ht => absurd ht (Nat.not_lt_zero t)⟩ (mh_fuel _ (by omega))
    obtain ⟨i, k1, k2⟩ := key
    exact ⟨i, k1, k2⟩
  have key := mh_wh (fun m (r : Nat × Nat × Nat) => f_X12_fits_b27 m (bd 0) (bd x) (bd y) (nI (104 + 25 * T)) (nI (104 + 25 * Q)) (nI r.2.1) (nI r.2.2) (nI r.1) h) (fun (r : Nat × Nat) => f_X12_fits_b162 (nI r.1) (nI r.2) h) (fun r => r.1 ≤ cF.length ∧ r.2.1 + mh_nw (cF.drop r.1) (ks.drop r.1) cT = cT.length + mh_nw cF ks cT ∧ r.2.1 ≤ 12 + r.1 ∧ ((r.2.2 = 1 ∧ ∀ i, i < r.1 → 0 < ks.getD i 0 → cF.getD i 0 ∈ cT → mh_ct cT mT (cF.getD i 0) + ks.getD i 0 ≤ 20) ∨ (r.2.2 = 0 ∧ ∃ i, i < cF.length ∧ 0 < ks.getD i 0 ∧ cF.getD i 0 ∈ cT ∧ ¬ mh_ct cT mT (cF.getD i 0) + ks.getD i 0 ≤ 20))) (fun r => cF.length - r.1) (fun r => r.1 = cT.length + mh_nw cF ks cT ∧ r.1 ≤ 24 ∧ ((r.2 = 1 ∧ ∀ i, i < cF.length → 0 < ks.getD i 0 → cF.getD i 0 ∈ cT → mh_ct cT mT (cF.getD i 0) + ks.getD i 0 ≤ 20) ∨ (r.2 = 0 ∧ ∃ i, i < cF.length ∧ 0 < ks.getD i 0 ∧ cF.getD i 0 ∈ cT ∧ ¬ mh_ct cT mT (cF.getD i 0) + ks.getD i 0 ≤ 20)))
    (fun m r hr => by
      obtain ⟨k, vs, gd⟩ := r
      obtain ⟨q1, q2, q3, q4⟩ := hr
      have q1 : k ≤ cF.length := q1
      have q2 : vs + mh_nw (cF.drop k) (ks.drop k) cT = cT.length + mh_nw cF ks cT := q2
      have q3 : vs ≤ 12 + k := q3
      have q4 : (gd = 1 ∧ ∀ i, i < k → 0 < ks.getD i 0 → cF.getD i 0 ∈ cT → mh_ct cT mT (cF.getD i 0) + ks.getD i 0 ≤ 20) ∨ (gd = 0 ∧ ∃ i, i < cF.length ∧ 0 < ks.getD i 0 ∧ cF.getD i 0 ∈ cT ∧ ¬ mh_ct cT mT (cF.getD i 0) + ks.getD i 0 ≤ 20) := q4
      show (∃ s', _ ∧ _ ∧ f_X12_fits_b27 (m + 1) (bd 0) (bd x) (bd y) (nI (104 + 25 * T)) (nI (104 + 25 * Q)) (nI vs) (nI gd) (nI k) h = _) ∨ ∃ r, _ ∧ f_X12_fits_b27 (m + 1) (bd 0) (bd x) (bd y) (nI (104 + 25 * T)) (nI (104 + 25 * Q)) (nI vs) (nI gd) (nI k) h = _
      rw [f_X12_fits_b27, mh_gR_eq (k := 1) ho rfl, Option.bind_some, mh_aI_eq hg (show 104 + 25 * Q < 304 by omega) (by omega), Option.bind_some, PF.1]
      by_cases c : k < cF.length
      · left
        have nd := mh_nw_drop (cT := cT) c hkl
        have kb := hk20 k
        have go : ∀ vs' gd', vs' + mh_nw (cF.drop (k + 1)) (ks.drop (k + 1)) cT = cT.length + mh_nw cF ks cT → vs' ≤ 12 + (k + 1) → ((gd' = 1 ∧ ∀ i, i < k + 1 → 0 < ks.getD i 0 → cF.getD i 0 ∈ cT → mh_ct cT mT (cF.getD i 0) + ks.getD i 0 ≤ 20) ∨ (gd' = 0 ∧ ∃ i, i < cF.length ∧ 0 < ks.getD i 0 ∧ cF.getD i 0 ∈ cT ∧ ¬ mh_ct cT mT (cF.getD i 0) + ks.getD i 0 ≤ 20)) → ∃ s' : Nat × Nat × Nat, (s'.1 ≤ cF.length ∧ s'.2.1 + mh_nw (cF.drop s'.1) (ks.drop s'.1) cT = cT.length + mh_nw cF ks cT ∧ s'.2.1 ≤ 12 + s'.1 ∧ ((s'.2.2 = 1 ∧ ∀ i, i < s'.1 → 0 < ks.getD i 0 → cF.getD i 0 ∈ cT → mh_ct cT mT (cF.getD i 0) + ks.getD i 0 ≤ 20) ∨ (s'.2.2 = 0 ∧ ∃ i, i < cF.length ∧ 0 < ks.getD i 0 ∧ cF.getD i 0 ∈ cT ∧ ¬ mh_ct cT mT (cF.getD i 0) + ks.getD i 0 ≤ 20))) ∧ cF.length - s'.1 < cF.length - k ∧ f_X12_fits_b156 (f_X12_fits_b27 m) (bd 0) (bd x) (bd y) (nI (104 + 25 * T)) (nI (104 + 25 * Q)) (nI vs') (nI gd') (nI k) h = f_X12_fits_b27 m (bd 0) (bd x) (bd y) (nI (104 + 25 * T)) (nI (104 + 25 * Q)) (nI s'.2.1) (nI s'.2.2) (nI s'.1) h := fun vs' gd' h1 h2 h3 => by
          refine ⟨(k + 1, vs', gd'), ⟨c, h1, h2, h3⟩, by show cF.length - (k + 1) < cF.length - k; omega, ?_⟩
          unfold f_X12_fits_b156
          rw [mh_nm_eq, mh_inc]
        rw [if_neg (fun z => absurd ((nI_leI (by omega) (by omega)).mp z) (by omega)), mh_aI_eq hx (show k < 12 by omega) (by omega), Option.bind_some, hxv k c]
        by_cases k0 : ks.getD k 0 = 0
        · rw [if_pos ((mh_eqr (b := 0) 0 rfl (by omega) (by omega)).mpr k0)]
          rw [if_neg (fun z => z.1 k0)] at nd
          refine go vs gd (by omega) (by omega) ?_
          rcases q4 with ⟨z1, z2⟩ | z
          · refine Or.inl ⟨z1, fun i hi h0 => ?_⟩
            by_cases e : i = k
            · rw [e] at h0; omega
            · exact z2 i (by omega) h0
          · exact Or.inr z
        · rw [if_neg (fun z => k0 ((mh_eqr (b := 0) 0 rfl (by omega) (by omega)).mp z)), mh_nm_eq]
          obtain ⟨i, f1, f2⟩ := find (f_X12_fits_b156 (f_X12_fits_b27 m)) (nI vs) (nI gd) k c
          rw [f2]
          unfold f_X12_fits_b97
          rw [mh_gR_eq (k := 1) ho rfl, Option.bind_some, mh_aI_eq hg (show 104 + 25 * T < 304 by omega) (by omega), Option.bind_some, PT.1]
          rcases f1 with ⟨e1, e2⟩ | ⟨e1, e2⟩
          · rw [if_pos ⟨k0, e2⟩] at nd
            rw [if_pos (by rw [e1]), mh_nm_eq, mh_inc]
            refine go (vs + 1) gd (by omega) (by omega) ?_
            rcases q4 with ⟨z1, z2⟩ | z
            · refine Or.inl ⟨z1, fun t ht h0 hin => ?_⟩
              by_cases e : t = k
              · rw [e] at hin; exact absurd hin e2
              · exact z2 t (by omega) h0 hin
            · exact Or.inr z
          · have hin : cF.getD k 0 ∈ cT := by rw [← e2]; exact mh_get_mem e1
            rw [if_neg (fun z => z.2 hin)] at nd
            rw [if_neg (fun z => absurd ((nI_eq (by omega) (by omega)).mp z) (by omega))]
            rcases q4 with ⟨z1, z2⟩ | ⟨z1, z2⟩
            · subst z1
              have e13 : nI (104 + 25 * T) + (13 : Int32) + nI i = nI (104 + 25 * T + 13 + i) := by rw [show (13 : Int32) = nI 13 from rfl, nI_add, nI_add]
              have ec : mh_ct cT mT (cF.getD k 0) = nT.getD i 0 - gs.getD i 0 := by rw [← e2, mh_ct_get mTs e1, hmT i e1]
              have gn := hgn i e1
              have n2 := hn20 i
              rw [if_neg (show ¬ nI 1 = 0 by decide), Option.bind_some, e13, mh_aI_eq hg (show 104 + 25 * T + 13 + i < 304 by omega) (by omega), Option.bind_some, mh_aI_eq hy (show i < 12 by omega) (by omega), Option.bind_some, mh_aI_eq hx (show k < 12 by omega) (by omega), Option.bind_some, (PT.2 i e1).2, hyv i e1, hxv k c, pk_sub gn, nI_add, ← ec]
              by_cases c20 : 20 < mh_ct cT mT (cF.getD k 0) + ks.getD k 0
              · rw [if_pos ((mh_ltl (a := 20) 20 rfl (by omega) (by omega)).mpr c20)]
                exact go vs 0 (by omega) (by omega) (Or.inr ⟨rfl, k, c, by omega, hin, by omega⟩)
              · rw [if_neg (fun z => c20 ((mh_ltl (a := 20) 20 rfl (by omega) (by omega)).mp z))]
                refine go vs 1 (by omega) (by omega) (Or.inl ⟨rfl, fun t ht h0 hi => ?_⟩)
                by_cases e : t = k
                · rw [e]; omega
                · exact z2 t (by omega) h0 hi
            · subst z1
              rw [if_pos (show nI 0 = 0 from rfl)]
              exact go vs 0 (by omega) (by omega) (Or.inr ⟨rfl, z2⟩)
      · right
        have e : k = cF.length := by omega
        subst e
        rw [mh_nw_end] at q2
        exact ⟨(vs, gd), ⟨by show vs = _; omega, by show vs ≤ 24; omega, q4⟩, by rw [if_pos ((nI_leI (by omega) (by omega)).mpr (by omega))]⟩)
    12 mh_fu (0, cT.length, 1) (by show cF.length - 0 ≤ 12; omega) ⟨Nat.zero_le _, by show cT.length + mh_nw (cF.drop 0) (ks.drop 0) cT = _; rw [List.drop_zero, List.drop_zero], by show cT.length ≤ 12 + 0; omega, Or.inl ⟨rfl, fun i hi => absurd hi (Nat.not_lt_zero i)⟩⟩ (mh_fuel _ (by omega))
  obtain ⟨⟨vs, gd⟩, ⟨k1, k2, k3⟩, k4⟩ := key
  have k1 : vs = cT.length + mh_nw cF ks cT := k1
  have k2 : vs ≤ 24 := k2
  have k4 : f_X12_fits_b27 mh_fu (bd 0) (bd x) (bd y) (nI (104 + 25 * T)) (nI (104 + 25 * Q)) (nI cT.length) 1 0 h = f_X12_fits_b162 (nI vs) (nI gd) h := k4
  have e : f_X12_fits_e (bd 0) (nI T) (nI Q) (bd x) (bd y) h = f_X12_fits_b162 (nI vs) (nI gd) h := by
    unfold f_X12_fits_e
    rw [mh_b2_eq mh_r_purseAt, mh_b2_eq mh_r_purseAt, mh_gR_eq (k := 1) ho rfl, Option.bind_some, mh_aI_eq hg (show 104 + 25 * T < 304 by omega) (by omega), Option.bind_some, PT.1, mh_nm_eq, mh_nm_eq, k4]
  rw [e]
  unfold f_X12_fits_b162
  rcases k3 with ⟨z1, z2⟩ | ⟨z1, i, z2, z3, z4, z5⟩
  · have z1 : gd = 1 := z1
    subst z1
    rw [if_neg (show ¬ nI 1 = 0 by decide)]
    by_cases c : 12 < vs
    · rw [if_pos ((mh_ltl (a := 12) 12 rfl (by omega) (by omega)).mpr c)]
      exact Or.inr ⟨fun q => by have := q.2; omega, rfl⟩
    · rw [if_neg (fun z => c ((mh_ltl (a := 12) 12 rfl (by omega) (by omega)).mp z))]
      exact Or.inl ⟨⟨z2, by omega⟩, rfl⟩
  · have z1 : gd = 0 := z1
    subst z1
    rw [if_pos (show nI 0 = 0 from rfl)]
    exact Or.inr ⟨fun q => z5 (q.1 i z2 z3 z4), rfl⟩
/-- a purse gets -/
theorem mh_r_gets {g : Nat → Int32} {a v k : Nat} {C N : List Nat} (hI : mh_Inj bd 99) (ho : h (bd 0) = some (.inr (12, mh_rf bd F))) (hg : h (bd 1) = some (.inl (0, 304, .inl g))) (ha : a + 25 ≤ 304) (hP : mh_Pv g a C N) (hm : mh_ms C) (hl : N.length = C.length) (v1 : 1 ≤ v) (v2 : v ≤ 300) (hk : k < 2 ^ 31) (h12 : k ≠ 0 → v ∈ C ∨ C.length < 12) : ∃ h' g', f_X12_gets_e (bd 0) (nI a) (nI v) (nI k) h = some h' ∧ h' (bd 1) = some (.inl (0, 304, .inl g')) ∧ mh_fr [bd 1] h h' ∧ mh_Pv g' a (if k = 0 then (C, N) else mh_gt2 (C, N) v k).1 (if k = 0 then (C, N) else mh_gt2 (C, N) v k).2 ∧ ∀ j, j < 304 → (j < a ∨ a + 25 ≤ j) → g' j = g j := by
  have lC := hm.1.1
  unfold f_X12_gets_e
  by_cases k0 : k = 0
  · rw [if_pos ((mh_eqr (b := 0) 0 rfl (by omega) (by omega)).mpr k0), if_pos k0]
    exact ⟨h, g, rfl, hg, mh_fr.rfl, hP, fun _ _ _ => rfl⟩
  · rw [if_neg (fun z => k0 ((mh_eqr (b := 0) 0 rfl (by omega) (by omega)).mp z)), if_neg k0, mh_gR_eq (k := 1) ho rfl, Option.bind_some, mh_aI_eq hg (show a < 304 by omega) (by omega), Option.bind_some, hP.1]
    have h12 := h12 k0
    -- the place
    have key := mh_wh (fun m (t : Nat) => f_X12_gets_b13 m (bd 0) (nI a) (nI v) (nI k) (nI t) h) (fun (t : Nat) => f_X12_gets_b37 (bd 0) (nI a) (nI v) (nI k) (nI t) h) (fun t => t ≤ C.length ∧ ∀ i, t ≤ i → i < C.length → v < C.getD i 0) (fun t => t) (fun t => t ≤ C.length ∧ (∀ i, t ≤ i → i < C.length → v < C.getD i 0) ∧ (t = 0 ∨ C.getD (t - 1) 0 ≤ v))
      (fun m t ht => by
        obtain ⟨q1, q2⟩ := ht
        show (∃ s', _ ∧ _ ∧ f_X12_gets_b13 (m + 1) (bd 0) (nI a) (nI v) (nI k) (nI t) h = _) ∨ ∃ r, _ ∧ f_X12_gets_b13 (m + 1) (bd 0) (nI a) (nI v) (nI k) (nI t) h = _
        rw [f_X12_gets_b13]
        cases t with
        | zero =>
          right
          exact ⟨0, ⟨q1, q2, Or.inl rfl⟩, by rw [if_pos (show nI 0 ≤ 0 by decide)]⟩
        | succ t =>
          have cb := hm.1.get (show t < C.length by omega)
          have e1 : nI a + nI (t + 1) = nI (a + 1 + t) := by rw [nI_add]; congr 1; omega
          rw [if_neg (nI_nle (by omega) (by omega)), mh_gR_eq (k := 1) ho rfl, Option.bind_some, e1, mh_aI_eq hg (show a + 1 + t < 304 by omega) (by omega), Option.bind_some, (hP.2 t (by omega)).1]
          by_cases c : C.getD t 0 ≤ v
          · right
            exact ⟨t + 1, ⟨q1, q2, Or.inr (by rw [Nat.add_sub_cancel]; exact c)⟩, by rw [if_pos ((nI_leI (by omega) (by omega)).mpr c)]⟩
          · left
            refine ⟨t, ⟨by omega, fun i i1 i2 => ?_⟩, Nat.lt_succ_self t, by rw [if_neg (fun z => c ((nI_leI (by omega) (by omega)).mp z)), mh_nm_eq, mh_dec]⟩
            by_cases e : i = t
            · rw [e]; omega
            · exact q2 i (by omega) i2)
      12 mh_fu C.length (by omega) ⟨Nat.le_refl _, fun i i1 i2 => by omega⟩ (mh_fuel _ (by omega))
    obtain ⟨t, ⟨t1, t2, t3⟩, t4⟩ := key
    have t4 : f_X12_gets_b13 mh_fu (bd 0) (nI a) (nI v) (nI k) (nI C.length) h = f_X12_gets_b37 (bd 0) (nI a) (nI v) (nI k) (nI t) h := t4
    rw [t4]
    unfold f_X12_gets_b37
    have below : ∀ i, i < t → C.getD i 0 ≤ v := fun i hi => by
      rcases t3 with q | q
      · omega
      · by_cases e : i = t - 1
        · rw [e]; exact q
        · have := mh_pw_ne hm.2 (show i < t - 1 by omega) (by omega); omega
    -- it has the value
    by_cases hv : v ∈ C
    · obtain ⟨w, w1, w2⟩ := mh_mem_get hv
      have wt : w + 1 = t := by
        have a1 : w < t := Nat.lt_of_not_le (fun q => by have := t2 w q w1; omega)
        refine Nat.le_antisymm a1 (Nat.le_of_not_lt (fun q => ?_))
        have := below (t - 1) (by omega)
        have := mh_pw_ne hm.2 (show w < t - 1 by omega) (by omega)
        omega
      subst wt
      have e1 : nI a + nI (w + 1) = nI (a + 1 + w) := by rw [nI_add]; congr 1; omega
      have e12 : nI a + (12 : Int32) + nI (w + 1) = nI (a + 13 + w) := by rw [show (12 : Int32) = nI 12 from rfl, nI_add, nI_add]; congr 1; omega
      have hh := (mh_hd_iff hm (show v < 2 ^ 31 by omega)).mpr hv
      have pw := mh_pf_get hm w1
      rw [w2] at pw
      have eg : mh_gt2 (C, N) v k = (C, N.set w (N.getD w 0 + k)) := by
        unfold mh_gt2
        show (if mh_hd C (nI v) = true then _ else _) = _
        rw [if_pos hh, pw]
      rw [eg, if_neg (nI_nle (by omega) (by omega)), mh_gR_eq (k := 1) ho rfl, Option.bind_some, e1, mh_aI_eq hg (show a + 1 + w < 304 by omega) (by omega), Option.bind_some, (hP.2 w w1).1, if_pos (by rw [w2]), Option.bind_some, e12, mh_aI_eq hg (show a + 13 + w < 304 by omega) (by omega), Option.bind_some, (hP.2 w w1).2, nI_add, mh_sI_eq hg (show a + 13 + w < 304 by omega) (by omega), Option.bind_some]
      refine ⟨_, upd g (a + 13 + w) (nI (N.getD w 0 + k)), rfl, mh_up_eq _ _ _, mh_fr.up List.mem_cons_self, ⟨by rw [pk_un (by omega)]; exact hP.1, fun i hi => ⟨by have hi : i < C.length := hi; rw [pk_un (by omega)]; exact (hP.2 i hi).1, ?_⟩⟩, fun j hj hn => by rw [pk_un (by omega)]⟩
      have hi : i < C.length := hi
      show _ = nI ((N.set w (N.getD w 0 + k)).getD i 0)
      rw [mh_getD_set (by omega)]
      by_cases e : i = w
      · rw [if_pos e, e, pk_us]
      · rw [if_neg e, pk_un (by omega)]; exact (hP.2 i hi).2
    · -- a new value
      have hlt := h12.resolve_left hv
      have hh : ¬ mh_hd C (nI v) = true := fun q => hv ((mh_hd_iff hm (show v < 2 ^ 31 by omega)).mp q)
      have pt : mh_pf C (nI v) = t := mh_pf_is (by omega) (fun x hx => by have := (hm.1.2 x hx).2; omega) t1 (fun i hi => by
        have := below i hi
        have : C.getD i 0 ≠ v := fun q => hv (by rw [← q]; exact mh_get_mem (by omega))
        omega) (fun ht => by have := t2 t (Nat.le_refl _) ht; omega)
      have eg : mh_gt2 (C, N) v k = (mh_ins C v, mh_ic N t k) := by
        unfold mh_gt2
        show (if mh_hd C (nI v) = true then _ else _) = _
        rw [if_neg hh, pt]
      have b72 : ∃ h' g', f_X12_gets_b72 (bd 0) (nI a) (nI v) (nI k) (nI t) h = some h' ∧ h' (bd 1) = some (.inl (0, 304, .inl g')) ∧ mh_fr [bd 1] h h' ∧ mh_Pv g' a (mh_ins C v) (mh_ic N t k) ∧ ∀ j, j < 304 → (j < a ∨ a + 25 ≤ j) → g' j = g j := by
        unfold f_X12_gets_b72
        rw [mh_gR_eq (k := 1) ho rfl, Option.bind_some, mh_aI_eq hg (show a < 304 by omega) (by omega), Option.bind_some, hP.1]
        -- what lies above goes up by one
        have key := mh_wh (fun m (s : Nat × mh_H) => f_X12_gets_b80 m (bd 0) (nI a) (nI v) (nI k) (nI t) (nI s.1) s.2) (fun (r : mh_H) => f_X12_gets_b137 (bd 0) (nI a) (nI v) (nI k) (nI t) r) (fun s => t ≤ s.1 ∧ s.1 ≤ C.length ∧ mh_fr [bd 1] h s.2 ∧ ∃ g', s.2 (bd 1) = some (.inl (0, 304, .inl g')) ∧ g' a = nI C.length ∧ (∀ i, i < s.1 → g' (a + 1 + i) = nI (C.getD i 0) ∧ g' (a + 13 + i) = nI (N.getD i 0)) ∧ (∀ i, s.1 < i → i ≤ C.length → g' (a + 1 + i) = nI (C.getD (i - 1) 0) ∧ g' (a + 13 + i) = nI (N.getD (i - 1) 0)) ∧ ∀ j, j < 304 → (j < a ∨ a + 25 ≤ j) → g' j = g j) (fun s => s.1) (fun r => mh_fr [bd 1] h r ∧ ∃ g', r (bd 1) = some (.inl (0, 304, .inl g')) ∧ g' a = nI C.length ∧ (∀ i, i < t → g' (a + 1 + i) = nI (C.getD i 0) ∧ g' (a + 13 + i) = nI (N.getD i 0)) ∧ (∀ i, t < i → i ≤ C.length → g' (a + 1 + i) = nI (C.getD (i - 1) 0) ∧ g' (a + 13 + i) = nI (N.getD (i - 1) 0)) ∧ ∀ j, j < 304 → (j < a ∨ a + 25 ≤ j) → g' j = g j)
          (fun m s hs => by
            obtain ⟨i, hh⟩ := s
            obtain ⟨q1, q2, q3, g', q4, q5, q6, q7, q8⟩ := hs
            have q1 : t ≤ i := q1
            have q2 : i ≤ C.length := q2
            have q3 : mh_fr [bd 1] h hh := q3
            have q4 : hh (bd 1) = some (.inl (0, 304, .inl g')) := q4
            have q6 : ∀ j, j < i → g' (a + 1 + j) = nI (C.getD j 0) ∧ g' (a + 13 + j) = nI (N.getD j 0) := q6
            have q7 : ∀ j, i < j → j ≤ C.length → g' (a + 1 + j) = nI (C.getD (j - 1) 0) ∧ g' (a + 13 + j) = nI (N.getD (j - 1) 0) := q7
            show (∃ s', _ ∧ _ ∧ f_X12_gets_b80 (m + 1) (bd 0) (nI a) (nI v) (nI k) (nI t) (nI i) hh = _) ∨ ∃ r, _ ∧ f_X12_gets_b80 (m + 1) (bd 0) (nI a) (nI v) (nI k) (nI t) (nI i) hh = _
            have ho' : hh (bd 0) = some (.inr (12, mh_rf bd F)) := (q3 _ (by simp [hI.ne (show 0 < 99 by omega) (show 1 < 99 by omega) (by omega)])).trans ho
            rw [f_X12_gets_b80]
            by_cases c : i ≤ t
            · right
              have e : i = t := by omega
              subst e
              exact ⟨hh, ⟨q3, g', q4, q5, q6, q7, q8⟩, by rw [if_pos ((nI_leI (by omega) (by omega)).mpr c)]⟩
            · left
              obtain ⟨u, eu⟩ : ∃ u, i = u + 1 := ⟨i - 1, by omega⟩
              subst eu
              have e1 : nI a + nI (u + 1) = nI (a + 1 + u) := by rw [nI_add]; congr 1; omega
              have e2 : nI (a + 1 + u) + (1 : Int32) = nI (a + 1 + (u + 1)) := by rw [nI_1]; congr 1
              have e12 : nI a + (12 : Int32) + nI (u + 1) = nI (a + 13 + u) := by rw [show (12 : Int32) = nI 12 from rfl, nI_add, nI_add]; congr 1; omega
              have e13 : nI a + (13 : Int32) + nI (u + 1) = nI (a + 13 + (u + 1)) := by rw [show (13 : Int32) = nI 13 from rfl, nI_add, nI_add]
              obtain ⟨v1', v2'⟩ := q6 u (Nat.lt_succ_self u)
              obtain ⟨H1, eH1⟩ : ∃ H1, H1 = mh_up hh (bd 1) (.inl (0, 304, .inl (upd g' (a + 1 + (u + 1)) (nI (C.getD u 0))))) := ⟨_, rfl⟩
              have s1 : mh_sI hh (bd 1) (nI (a + 1 + (u + 1))) (nI (C.getD u 0)) = some H1 := by rw [eH1]; exact mh_sI_eq q4 (by omega) (by omega)
              have o1 : H1 (bd 0) = some (.inr (12, mh_rf bd F)) := by rw [eH1, mh_up_ne (hI.ne (by omega) (by omega) (by omega))]; exact ho'
              have g1 : H1 (bd 1) = some (.inl (0, 304, .inl (upd g' (a + 1 + (u + 1)) (nI (C.getD u 0))))) := by rw [eH1]; exact mh_up_eq _ _ _
              have r1 : upd g' (a + 1 + (u + 1)) (nI (C.getD u 0)) (a + 13 + u) = nI (N.getD u 0) := by rw [pk_un (by omega)]; exact v2'
              refine ⟨(u, mh_up H1 (bd 1) (.inl (0, 304, .inl (upd (upd g' (a + 1 + (u + 1)) (nI (C.getD u 0))) (a + 13 + (u + 1)) (nI (N.getD u 0)))))), ⟨by show t ≤ u; omega, by show u ≤ C.length; omega, by rw [eH1]; exact q3.trans ((mh_fr.up List.mem_cons_self).trans (mh_fr.up List.mem_cons_self)), _, mh_up_eq _ _ _, by rw [pk_un (by omega), pk_un (by omega)]; exact q5, fun j hj => ?_, fun j j1 j2 => ?_, fun j hj hn => by rw [pk_un (by omega), pk_un (by omega)]; exact q8 j hj hn⟩, Nat.lt_succ_self u, ?_⟩
              · have hj : j < u := hj
                exact ⟨by rw [pk_un (by omega), pk_un (by omega)]; exact (q6 j (by omega)).1, by rw [pk_un (by omega), pk_un (by omega)]; exact (q6 j (by omega)).2⟩
              · have j1 : u < j := j1
                by_cases e : j = u + 1
                · subst e
                  exact ⟨by rw [pk_un (by omega), pk_us]; rfl, by rw [pk_us]; rfl⟩
                · exact ⟨by rw [pk_un (by omega), pk_un (by omega)]; exact (q7 j (by omega) j2).1, by rw [pk_un (by omega), pk_un (by omega)]; exact (q7 j (by omega) j2).2⟩
              · rw [if_neg (fun z => c ((nI_leI (by omega) (by omega)).mp z)), mh_gR_eq (k := 1) ho' rfl, Option.bind_some, Option.bind_some, e1, mh_aI_eq q4 (show a + 1 + u < 304 by omega) (by omega), Option.bind_some, e2, v1', s1, Option.bind_some, mh_gR_eq (k := 1) o1 rfl, Option.bind_some, Option.bind_some, e12, mh_aI_eq g1 (show a + 13 + u < 304 by omega) (by omega), Option.bind_some, r1, e13, mh_sI_eq g1 (show a + 13 + (u + 1) < 304 by omega) (by omega), Option.bind_some, mh_nm_eq, mh_dec])
          12 mh_fu (C.length, h) (by show C.length ≤ 12; omega) ⟨t1, Nat.le_refl _, mh_fr.rfl, g, hg, hP.1, fun i hi => hP.2 i hi, fun i i1 i2 => by have i1 : C.length < i := i1; omega, fun _ _ _ => rfl⟩ (mh_fuel _ (by omega))
        obtain ⟨h2, ⟨y1, g2, y2, y3, y4, y5, y6⟩, y7⟩ := key
        have y7 : f_X12_gets_b80 mh_fu (bd 0) (nI a) (nI v) (nI k) (nI t) (nI C.length) h = _ := y7
        rw [y7]
        unfold f_X12_gets_b137
        have o2 : h2 (bd 0) = some (.inr (12, mh_rf bd F)) := (y1 _ (by simp [hI.ne (show 0 < 99 by omega) (show 1 < 99 by omega) (by omega)])).trans ho
        have e1 : nI a + nI t + (1 : Int32) = nI (a + 1 + t) := by rw [nI_add, nI_1]; congr 1; omega
        have e13 : nI a + (13 : Int32) + nI t = nI (a + 13 + t) := by rw [show (13 : Int32) = nI 13 from rfl, nI_add, nI_add]
        obtain ⟨H1, eH1⟩ : ∃ H1, H1 = mh_up h2 (bd 1) (.inl (0, 304, .inl (upd g2 (a + 1 + t) (nI v)))) := ⟨_, rfl⟩
        have s1 : mh_sI h2 (bd 1) (nI (a + 1 + t)) (nI v) = some H1 := by rw [eH1]; exact mh_sI_eq y2 (by omega) (by omega)
        have o1 : H1 (bd 0) = some (.inr (12, mh_rf bd F)) := by rw [eH1, mh_up_ne (hI.ne (by omega) (by omega) (by omega))]; exact o2
        have g1 : H1 (bd 1) = some (.inl (0, 304, .inl (upd g2 (a + 1 + t) (nI v)))) := by rw [eH1]; exact mh_up_eq _ _ _
        obtain ⟨H3, eH3⟩ : ∃ H3, H3 = mh_up H1 (bd 1) (.inl (0, 304, .inl (upd (upd g2 (a + 1 + t) (nI v)) (a + 13 + t) (nI k)))) := ⟨_, rfl⟩
        have s3 : mh_sI H1 (bd 1) (nI (a + 13 + t)) (nI k) = some H3 := by rw [eH3]; exact mh_sI_eq g1 (by omega) (by omega)
        have o3 : H3 (bd 0) = some (.inr (12, mh_rf bd F)) := by rw [eH3, mh_up_ne (hI.ne (by omega) (by omega) (by omega))]; exact o1
        have g3 : H3 (bd 1) = some (.inl (0, 304, .inl (upd (upd g2 (a + 1 + t) (nI v)) (a + 13 + t) (nI k)))) := by rw [eH3]; exact mh_up_eq _ _ _
        have r3 : upd (upd g2 (a + 1 + t) (nI v)) (a + 13 + t) (nI k) a = nI C.length := by rw [pk_un (by omega), pk_un (by omega)]; exact y3
        rw [mh_gR_eq (k := 1) o2 rfl, Option.bind_some, e1, s1, Option.bind_some, mh_gR_eq (k := 1) o1 rfl, Option.bind_some, e13, s3, Option.bind_some, mh_gR_eq (k := 1) o3 rfl, Option.bind_some, mh_aI_eq g3 (show a < 304 by omega) (by omega), Option.bind_some, r3, nI_1, mh_sI_eq g3 (show a < 304 by omega) (by omega), Option.bind_some]
        refine ⟨_, upd (upd (upd g2 (a + 1 + t) (nI v)) (a + 13 + t) (nI k)) a (nI (C.length + 1)), rfl, mh_up_eq _ _ _, ?_, ⟨by rw [pk_us, mh_ins_len], fun i hi => ?_⟩, fun j hj hn => by rw [pk_un (by omega), pk_un (by omega), pk_un (by omega)]; exact y6 j hj hn⟩
        · rw [eH3, eH1]
          exact y1.trans ((mh_fr.up List.mem_cons_self).trans ((mh_fr.up List.mem_cons_self).trans (mh_fr.up List.mem_cons_self)))
        · rw [mh_ins_len] at hi
          rw [pk_un (by omega), pk_un (by omega), mh_ins_get, pt, mh_ic_get (by omega)]
          by_cases q : i < t
          · rw [if_pos q, if_pos q, pk_un (by omega), pk_un (by omega)]
            refine ⟨(y4 i q).1, ?_⟩
            rw [pk_un (show a + 13 + i ≠ a + 13 + t by omega), pk_un (by omega)]
            exact (y4 i q).2
          · rw [if_neg q, if_neg q]
            by_cases e : i = t
            · rw [if_pos e, if_pos e, e, pk_us, pk_un (by omega), pk_us]
              exact ⟨rfl, rfl⟩
            · rw [if_neg e, if_neg e, pk_un (by omega), pk_un (by omega), pk_un (show a + 13 + i ≠ a + 13 + t by omega), pk_un (show a + 13 + i ≠ a + 1 + t by omega)]
              exact y5 i (by omega) (by omega)
      rw [eg]
      by_cases tz : t = 0
      · rw [if_pos (by rw [tz]; decide)]
        exact b72
      · obtain ⟨w, ew⟩ : ∃ w, t = w + 1 := ⟨t - 1, by omega⟩
        have cb := hm.1.get (show w < C.length by omega)
        have e1 : nI a + nI t = nI (a + 1 + w) := by rw [nI_add, ew]; congr 1; omega
        rw [if_neg (nI_nle (by omega) (by omega)), mh_gR_eq (k := 1) ho rfl, Option.bind_some, e1, mh_aI_eq hg (show a + 1 + w < 304 by omega) (by omega), Option.bind_some, (hP.2 w (by omega)).1, if_neg (fun z => hv (by rw [← (nI_eq (by omega) (by omega)).mp z]; exact mh_get_mem (by omega)))]
        exact b72
end MhModelFi
