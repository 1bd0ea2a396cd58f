noncomputable def mh_rmB (H k : Nat) (N L : Nat → Nat) (b : List Nat) (d : Nat) (st : mh_St) : mh_St := match d with
  | 0 => st
  | d + 1 => mh_rm1 H k N L b d st
theorem mh_rm1_B {H k : Nat} {N L : Nat → Nat} {b : List Nat} {d : Nat} {st : mh_St} (h : d < k) : mh_rm1 H k N L b d st = mh_rmB H k N L b d (mh_sl H (k - d - 1) (b.take d) (N d) (L d + 1 - N d) st) := by
  cases d with
  | zero => rfl
  | succ d => rw [mh_rm1, if_pos h]; rfl
theorem mh_rmB_congr {H k : Nat} {N L N' L' : Nat → Nat} {b b' : List Nat} {d : Nat} {st : mh_St} (h : ∀ i, i < d → N i = N' i ∧ L i = L' i) (h2 : ∀ i, i < d → b.take i = b'.take i) : mh_rmB H k N L b d st = mh_rmB H k N' L' b' d st := by
  cases d with
  | zero => rfl
  | succ d => exact mh_rm1_congr d st (fun i hi => h i (by omega)) (fun i hi => h2 i (by omega))
/-- StampSearch as an object -/
def mh_Ss (h : mh_H) (o bo bu fo fu nv lv : Nat) (b fnd : List Nat) (N L : Nat → Nat) (rch lk : Nat) : Prop :=
  h o = some (.inr (9, [.ref bo, .ref fo, .ref nv, .ref lv, .int (nI rch), .int (nI lk)])) ∧ (∃ f, mh_Co h bo bu f b) ∧ (∃ f, mh_Co h fo fu f fnd) ∧ ∃ fn fl, h nv = some (.inl (0, 7, .inl fn)) ∧ h lv = some (.inl (0, 7, .inl fl)) ∧ (∀ i, i ≤ b.length → fn i = nI (N i) ∧ fl i = nI (L i))
def mh_Sd (bo bu fo fu nv lv a u : Nat) : Prop := nv ≠ lv ∧ bo ≠ fo ∧ bu ≠ fu ∧ bo ≠ a ∧ bu ≠ u ∧ fo ≠ a ∧ fu ≠ u
def mh_fu1 (N : Nat → Nat) (i x : Nat) : Nat → Nat := fun j => if j = i then x else N j
section MhSearch
variable {h : mh_H} {o bo bu fo fu nv lv oF a u t k v : Nat} {b fnd cF : List Nat} {N L : Nat → Nat} {rch lk : Nat}
theorem mh_fx9_lookAt (hd : mh_Sd bo bu fo fu nv lv a u) (hS : mh_Ss h o bo bu fo fu nv lv b fnd N L rch lk) (hF : mh_Fe h oF a u t k v cF) {K H : Nat} (hms : mh_ms b) (hb : b.length < K) (hK : K ≤ 6) (hH : H ≤ 50) (c1 : 1 ≤ N b.length) (c2 : N b.length ≤ 300) (c3 : ∀ x, x ∈ b → x < N b.length) (hr : rch ≤ 15000) (hlk : lk ≤ 2000) :
    ∃ h', f_X9_lookAt_e o (nI b.length) (nI K) (nI H) oF h = some h' ∧ mh_Ss h' o bo bu fo fu nv lv (b ++ [N b.length]) (if b.length + 1 = K ∧ rch < mh_rh (b ++ [N b.length]) H then b ++ [N b.length] else fnd) (mh_fu1 (mh_fu1 N b.length (N b.length + 1)) (b.length + 1) (N b.length + 1)) (mh_fu1 L (b.length + 1) (min (mh_rh (b ++ [N b.length]) H + 1) 300)) (if b.length + 1 = K ∧ rch < mh_rh (b ++ [N b.length]) H then mh_rh (b ++ [N b.length]) H else rch) (lk + 1) ∧ mh_Fe h' oF a u t k v (b ++ [N b.length]) ∧ mh_rh (b ++ [N b.length]) H ≤ 15000 ∧ mh_fr [o, bo, bu, fo, fu, nv, lv, oF, a, u, t] h h' := by
  obtain ⟨d1, d2, d3, d4, d5, d6, d7⟩ := hd
  obtain ⟨s1, ⟨fb, s2⟩, ⟨ff, s3⟩, fn, fl, s4, s5, s6⟩ := hS
  have hl6 : b.length < 6 := by omega
  have n1 : o ≠ nv := mh_apt s1 s4 (fun q => by cases q)
  have n2 : o ≠ lv := mh_apt s1 s5 (fun q => by cases q)
  have n3 : o ≠ bo := mh_apt s1 s2.1 (fun q => by cases q)
  have n4 : o ≠ bu := mh_apt s1 s2.2.1 (fun q => by cases q)
  have n5 : o ≠ fo := mh_apt s1 s3.1 (fun q => by cases q)
  have n6 : o ≠ fu := mh_apt s1 s3.2.1 (fun q => by cases q)
  have n7 : nv ≠ bo := mh_apt s4 s2.1 (fun q => by cases q)
  have n8 : nv ≠ bu := mh_apt s4 s2.2.1 (fun q => by cases q)
  have n9 : nv ≠ fo := mh_apt s4 s3.1 (fun q => by cases q)
  have n10 : nv ≠ fu := mh_apt s4 s3.2.1 (fun q => by cases q)
  have n11 : lv ≠ bo := mh_apt s5 s2.1 (fun q => by cases q)
  have n12 : lv ≠ bu := mh_apt s5 s2.2.1 (fun q => by cases q)
  have n13 : lv ≠ fo := mh_apt s5 s3.1 (fun q => by cases q)
  have n14 : lv ≠ fu := mh_apt s5 s3.2.1 (fun q => by cases q)
  have n15 : bo ≠ fu := mh_apt s2.1 s3.2.1 (fun q => by cases q)
  have n16 : fo ≠ bu := mh_apt s3.1 s2.2.1 (fun q => by cases q)
  obtain ⟨fc0, ft0, fv0, x0, tn0, kn0, F1, F2, F3, F4, F5, F6⟩ := id hF
  have m1 : oF ≠ nv := mh_apt F1 s4 (fun q => by cases q)
  have m2 : oF ≠ o := mh_apt F1 s1 (fun q => by cases q)
  have m3 : oF ≠ bo := mh_apt F1 s2.1 (fun q => by cases q)
  have m4 : oF ≠ bu := mh_apt F1 s2.2.1 (fun q => by cases q)
  have m5 : oF ≠ lv := mh_apt F1 s5 (fun q => by cases q)
  have m6 : oF ≠ fo := mh_apt F1 s3.1 (fun q => by cases q)
  have m7 : oF ≠ fu := mh_apt F1 s3.2.1 (fun q => by cases q)
  have a1 : a ≠ nv := mh_apt F2.1 s4 (fun q => by cases q)
  have a2 : a ≠ o := mh_apt F2.1 s1 (fun q => by cases q)
  have a4 : a ≠ bu := mh_apt F2.1 s2.2.1 (fun q => by cases q)
  have a5 : a ≠ lv := mh_apt F2.1 s5 (fun q => by cases q)
  have a7 : a ≠ fu := mh_apt F2.1 s3.2.1 (fun q => by cases q)
  have u1 : u ≠ nv := mh_apt F2.2.1 s4 (fun q => by cases q)
  have u2 : u ≠ o := mh_apt F2.2.1 s1 (fun q => by cases q)
  have u3 : u ≠ bo := mh_apt F2.2.1 s2.1 (fun q => by cases q)
  have u5 : u ≠ lv := mh_apt F2.2.1 s5 (fun q => by cases q)
  have u6 : u ≠ fo := mh_apt F2.2.1 s3.1 (fun q => by cases q)
  have t1 : t ≠ nv := mh_apt F3 s4 (fun q => by cases q)
  have t2 : t ≠ o := mh_apt F3 s1 (fun q => by cases q)
  have t3 : t ≠ bo := mh_apt F3 s2.1 (fun q => by cases q)
  have t4 : t ≠ bu := mh_apt F3 s2.2.1 (fun q => by cases q)
  have t5 : t ≠ lv := mh_apt F3 s5 (fun q => by cases q)
  have t6 : t ≠ fo := mh_apt F3 s3.1 (fun q => by cases q)
  have t7 : t ≠ fu := mh_apt F3 s3.2.1 (fun q => by cases q)
  have k1 : k ≠ nv := mh_apt F4 s4 (fun q => by cases q)
  have k2 : k ≠ o := mh_apt F4 s1 (fun q => by cases q)
  have k3 : k ≠ bo := mh_apt F4 s2.1 (fun q => by cases q)
  have k4 : k ≠ bu := mh_apt F4 s2.2.1 (fun q => by cases q)
  have k5 : k ≠ lv := mh_apt F4 s5 (fun q => by cases q)
  have k6 : k ≠ fo := mh_apt F4 s3.1 (fun q => by cases q)
  have k7 : k ≠ fu := mh_apt F4 s3.2.1 (fun q => by cases q)
  have v1 : v ≠ nv := mh_apt F5 s4 (fun q => by cases q)
  have v2 : v ≠ o := mh_apt F5 s1 (fun q => by cases q)
  have v3 : v ≠ bo := mh_apt F5 s2.1 (fun q => by cases q)
  have v4 : v ≠ bu := mh_apt F5 s2.2.1 (fun q => by cases q)
  have v5 : v ≠ lv := mh_apt F5 s5 (fun q => by cases q)
  have v6 : v ≠ fo := mh_apt F5 s3.1 (fun q => by cases q)
  have v7 : v ≠ fu := mh_apt F5 s3.2.1 (fun q => by cases q)
  have keepF : ∀ {h1 h2 : mh_H} {cc : List Nat}, mh_Fe h1 oF a u t k v cc → mh_fr [o, nv, lv, bo, bu, fo, fu] h1 h2 → mh_Fe h2 oF a u t k v cc := fun {h1 h2 cc} hx hf => by
    obtain ⟨fc, ft, fv, x, tn, kn, r1, r2, r3, r4, r5, r6, r7, r8, r9⟩ := hx
    have ek := hf k (by simp [k1, k2, k3, k4, k5, k6, k7])
    have ev := hf v (by simp [v1, v2, v3, v4, v5, v6, v7])
    refine ⟨fc, ft, fv, x, tn, kn, (hf oF (by simp [m1, m2, m3, m4, m5, m6, m7])).trans r1, r2.keep (hf a (by simp [a1, a2, d4.symm, a4, a5, d6.symm, a7])) (hf u (by simp [u1, u2, u3, d5.symm, u5, u6, d7.symm])), (hf t (by simp [t1, t2, t3, t4, t5, t6, t7])).trans r3, ek.trans r4, ev.trans r5, r6, r7, r8, ?_⟩
    rcases r9 with r9 | ⟨r9, r10⟩
    · exact Or.inl r9
    · refine Or.inr ⟨r9, fun hne => ?_⟩
      obtain ⟨w, w1, w2⟩ := r10 hne
      exact ⟨w, w1.keep ek ev, w2⟩
  have hNn := s6 b.length (Nat.le_refl _)
  unfold f_X9_lookAt_e
  rw [mh_gR_eq (k := 2) s1 rfl, Option.bind_some, mh_aI_eq s4 (show b.length < 7 by omega) (by omega), Option.bind_some, Option.bind_some, mh_aI_eq s4 (show b.length < 7 by omega) (by omega), Option.bind_some, hNn.1, nI_1, mh_sI_eq s4 (show b.length < 7 by omega) (by omega), Option.bind_some]
  have w1 : (mh_up h nv (.inl (0, 7, .inl (upd fn b.length (nI (N b.length + 1)))))) o = some (.inr (9, [.ref bo, .ref fo, .ref nv, .ref lv, .int (nI rch), .int (nI lk)])) := by rw [mh_up_ne n1]; exact s1
  rw [mh_gI_eq (k := 5) w1 rfl, Option.bind_some, nI_1, mh_pI_s [.ref bo, .ref fo, .ref nv, .ref lv, .int (nI rch), .int (nI (lk + 1))] w1 ⟨Nat.le_of_ble_eq_true rfl, rfl⟩, Option.bind_some]
  -- the heap with the counters
  have e2 : mh_Co (mh_up (mh_up h nv (.inl (0, 7, .inl (upd fn b.length (nI (N b.length + 1)))))) o (.inr (9, [.ref bo, .ref fo, .ref nv, .ref lv, .int (nI rch), .int (nI (lk + 1))]))) bo bu fb b := s2.keep (by rw [mh_up_ne n3.symm, mh_up_ne n7.symm]) (by rw [mh_up_ne n4.symm, mh_up_ne n8.symm])
  have e1 : (mh_up (mh_up h nv (.inl (0, 7, .inl (upd fn b.length (nI (N b.length + 1)))))) o (.inr (9, [.ref bo, .ref fo, .ref nv, .ref lv, .int (nI rch), .int (nI (lk + 1))]))) o = some (.inr (9, [.ref bo, .ref fo, .ref nv, .ref lv, .int (nI rch), .int (nI (lk + 1))])) := mh_up_eq _ _ _
  obtain ⟨h2, f2, y1, y2, y3⟩ := mh_fx1_insert e2 e2.ne (N b.length) (by omega) (mh_hd_all (by omega) c3)
  rw [mh_ins_all (by omega) c3] at y2
  have fr2 : mh_fr [o, nv, lv, bo, bu, fo, fu] h h2 := ((mh_fr.up (by simp)).trans (mh_fr.up (by simp))).trans (fun x hx => y3 x (fun q => hx (by simp [q])) (fun q => hx (by simp [q])))
  have g1 : h2 o = some (.inr (9, [.ref bo, .ref fo, .ref nv, .ref lv, .int (nI rch), .int (nI (lk + 1))])) := (y3 o n3 n4).trans e1
  have hF2 := keepF hF fr2
  have ms2 : mh_ms (b ++ [N b.length]) := mh_ms_app hms (by omega) c1 c2 c3
  rw [mh_gR_eq (k := 0) e1 rfl, Option.bind_some, mh_cal_eq e2.1, mh_b2_eq y1, mh_gR_eq (k := 0) g1 rfl, Option.bind_some]
  obtain ⟨h3, z1, z2, z3⟩ := mh_fx2_take hF2 y2 ms2 d4 d5
  obtain ⟨yF, tF, oF2⟩ := hF2.ob
  obtain ⟨h4, s, z4, z5, z6, z7, z8⟩ := mh_fx2_allUpTo hH z2
  obtain ⟨yF3, tF3, oF3⟩ := z2.ob
  have hrh : mh_rh (b ++ [N b.length]) H = s := mh_rh_is z5
  rw [mh_cal_eq oF2, z1, Option.bind_some, mh_cal_eq oF3, mh_b2_eq z4]
  have fr4 : mh_fr [oF, a, u, t] h2 h4 := (z3.sub (by simp)).trans (z8.sub (by simp))
  have g4 : h4 o = some (.inr (9, [.ref bo, .ref fo, .ref nv, .ref lv, .int (nI rch), .int (nI (lk + 1))])) := (fr4 o (by simp [m2.symm, a2.symm, u2.symm, t2.symm])).trans g1
  have gn2 : h2 nv = some (.inl (0, 7, .inl (upd fn b.length (nI (N b.length + 1))))) := (y3 nv n7 n8).trans (by rw [mh_up_ne n1.symm]; exact mh_up_eq _ _ _)
  have gl2 : h2 lv = some (.inl (0, 7, .inl fl)) := (y3 lv n11 n12).trans (by rw [mh_up_ne n2.symm, mh_up_ne d1.symm]; exact s5)
  have gf2 : mh_Co h2 fo fu ff fnd := s3.keep ((y3 fo d2.symm n16).trans (by rw [mh_up_ne n5.symm, mh_up_ne n9.symm])) ((y3 fu n15.symm d3.symm).trans (by rw [mh_up_ne n6.symm, mh_up_ne n10.symm]))
  have gn4 : h4 nv = some (.inl (0, 7, .inl (upd fn b.length (nI (N b.length + 1))))) := (fr4 nv (by simp [m1.symm, a1.symm, u1.symm, t1.symm])).trans gn2
  have gl4 : h4 lv = some (.inl (0, 7, .inl fl)) := (fr4 lv (by simp [m5.symm, a5.symm, u5.symm, t5.symm])).trans gl2
  have gf4 : mh_Co h4 fo fu ff fnd := gf2.keep (fr4 fo (by simp [m6.symm, d6, u6.symm, t6.symm])) (fr4 fu (by simp [m7.symm, a7.symm, d7, t7.symm]))
  have gb4 : mh_Co h4 bo bu f2 (b ++ [N b.length]) := y2.keep (fr4 bo (by simp [m3.symm, d4, u3.symm, t3.symm])) (fr4 bu (by simp [m4.symm, a4.symm, d5, t4.symm]))
  have emin : (if (300 : Int32) < nI s + (1 : Int32) then (300 : Int32) else nI s + (1 : Int32)) = nI (min (s + 1) 300) := by
    rw [nI_1]
    by_cases hq : 300 < s + 1
    · rw [if_pos ((mh_ltl (a := 300) 300 rfl (by omega) (by omega)).mpr hq), Nat.min_eq_right (by omega)]
      rfl
    · rw [if_neg (fun q => hq ((mh_ltl (a := 300) 300 rfl (by omega) (by omega)).mp q)), Nat.min_eq_left (by omega)]
  rw [mh_gR_eq (k := 2) g4 rfl, Option.bind_some, nI_1, nI_1, mh_sI_eq gn4 (show b.length + 1 < 7 by omega) (by omega), Option.bind_some]
  have g5 : (mh_up h4 nv (.inl (0, 7, .inl (upd (upd fn b.length (nI (N b.length + 1))) (b.length + 1) (nI (N b.length + 1)))))) o = some (.inr (9, [.ref bo, .ref fo, .ref nv, .ref lv, .int (nI rch), .int (nI (lk + 1))])) := by rw [mh_up_ne n1]; exact g4
  have gl5 : (mh_up h4 nv (.inl (0, 7, .inl (upd (upd fn b.length (nI (N b.length + 1))) (b.length + 1) (nI (N b.length + 1)))))) lv = some (.inl (0, 7, .inl fl)) := by rw [mh_up_ne d1.symm]; exact gl4
  have emin' : (if (300 : Int32) < nI (s + 1) then (300 : Int32) else nI (s + 1)) = nI (min (s + 1) 300) := by rw [← nI_1]; exact emin
  rw [mh_gR_eq (k := 3) g5 rfl, Option.bind_some, emin', mh_sI_eq gl5 (show b.length + 1 < 7 by omega) (by omega), Option.bind_some]
  -- the heap behind the rows
  obtain ⟨h6, hh6⟩ : ∃ h6, h6 = mh_up (mh_up h4 nv (.inl (0, 7, .inl (upd (upd fn b.length (nI (N b.length + 1))) (b.length + 1) (nI (N b.length + 1)))))) lv (.inl (0, 7, .inl (upd fl (b.length + 1) (nI (min (s + 1) 300))))) := ⟨_, rfl⟩
  rw [← hh6]
  have g6 : h6 o = some (.inr (9, [.ref bo, .ref fo, .ref nv, .ref lv, .int (nI rch), .int (nI (lk + 1))])) := by rw [hh6, mh_up_ne n2]; exact g5
  have gn6 : h6 nv = some (.inl (0, 7, .inl (upd (upd fn b.length (nI (N b.length + 1))) (b.length + 1) (nI (N b.length + 1))))) := by rw [hh6, mh_up_ne d1]; exact mh_up_eq _ _ _
  have gl6 : h6 lv = some (.inl (0, 7, .inl (upd fl (b.length + 1) (nI (min (s + 1) 300))))) := by rw [hh6]; exact mh_up_eq _ _ _
  have fr6 : mh_fr [nv, lv] h4 h6 := by rw [hh6]; exact (mh_fr.up (by simp)).trans (mh_fr.up (by simp))
  have gf6 : mh_Co h6 fo fu ff fnd := gf4.keep (fr6 fo (by simp [n9.symm, n13.symm])) (fr6 fu (by simp [n10.symm, n14.symm]))
  have gb6 : mh_Co h6 bo bu f2 (b ++ [N b.length]) := gb4.keep (fr6 bo (by simp [n7.symm, n11.symm])) (fr6 bu (by simp [n8.symm, n12.symm]))
  have gF6 : mh_Fe h6 oF a u t k v (b ++ [N b.length]) := keepF z7 (fr6.sub (by simp))
  have frA : mh_fr [o, bo, bu, fo, fu, nv, lv, oF, a, u, t] h h6 := (fr2.sub (by simp)).trans ((fr4.sub (by simp)).trans (fr6.sub (by simp)))
  have rows : ∀ i, i ≤ (b ++ [N b.length]).length → upd (upd fn b.length (nI (N b.length + 1))) (b.length + 1) (nI (N b.length + 1)) i = nI (mh_fu1 (mh_fu1 N b.length (N b.length + 1)) (b.length + 1) (N b.length + 1) i) ∧ upd fl (b.length + 1) (nI (min (s + 1) 300)) i = nI (mh_fu1 L (b.length + 1) (min (s + 1) 300) i) := fun i hi => by
    rw [List.length_append] at hi
    have hi : i ≤ b.length + 1 := hi
    unfold mh_fu1
    by_cases h1 : i = b.length + 1
    · rw [if_pos h1, if_pos h1, h1, pk_us, pk_us]; exact ⟨rfl, rfl⟩
    · rw [pk_un h1, pk_un h1, if_neg h1, if_neg h1]
      by_cases h2 : i = b.length
      · rw [if_pos h2, h2, pk_us]; exact ⟨rfl, (s6 b.length (Nat.le_refl _)).2⟩
      · rw [pk_un h2, if_neg h2]; exact s6 i (by omega)
  rw [hrh]
  by_cases hK1 : b.length + 1 = K
  · rw [if_pos (show nI (b.length + 1) = nI K by rw [hK1]), mh_gI_eq (k := 4) g6 rfl, Option.bind_some]
    by_cases hq : rch < s
    · rw [if_neg (fun q => absurd ((nI_leI (by omega) (by omega)).mp q) (by omega)), mh_gR_eq (k := 1) g6 rfl, Option.bind_some, mh_gR_eq (k := 0) g6 rfl, Option.bind_some, mh_cal_eq gf6.1]
      obtain ⟨f7, p1, p2⟩ := mh_fx1_copy gf6 gb6 gf6.ne n15 d3 d2 n16.symm
      rw [p1, Option.bind_some]
      have g7 : (mh_up (mh_up h6 fo (.inr (1, [.ref fu, .int (nI (b ++ [N b.length]).length)]))) fu (.inl (0, 12, .inl f7))) o = some (.inr (9, [.ref bo, .ref fo, .ref nv, .ref lv, .int (nI rch), .int (nI (lk + 1))])) := by rw [mh_up_ne n6, mh_up_ne n5]; exact g6
      rw [mh_pI_s [.ref bo, .ref fo, .ref nv, .ref lv, .int (nI s), .int (nI (lk + 1))] g7 ⟨Nat.le_of_ble_eq_true rfl, rfl⟩, Option.bind_some, if_pos ⟨hK1, hq⟩, if_pos ⟨hK1, hq⟩]
      refine ⟨_, rfl, ⟨mh_up_eq _ _ _, ⟨f2, gb6.keep (by rw [mh_up_ne n3.symm, mh_up_ne n15, mh_up_ne d2]) (by rw [mh_up_ne n4.symm, mh_up_ne d3, mh_up_ne n16.symm])⟩, ⟨f7, p2.keep (mh_up_ne n5.symm) (mh_up_ne n6.symm)⟩, _, _, ?_, ?_, rows⟩, keepF gF6 (((mh_fr.up (by simp)).trans (mh_fr.up (by simp))).trans (mh_fr.up (by simp))), z6, frA.trans (((mh_fr.up (by simp)).trans (mh_fr.up (by simp))).trans (mh_fr.up (by simp)))⟩
      · rw [mh_up_ne n1.symm, mh_up_ne n10, mh_up_ne n9]; exact gn6
      · rw [mh_up_ne n2.symm, mh_up_ne n14, mh_up_ne n13]; exact gl6
    · rw [if_pos ((nI_leI (by omega) (by omega)).mpr (by omega)), if_neg (fun q => hq q.2), if_neg (fun q => hq q.2)]
      exact ⟨h6, rfl, ⟨g6, ⟨f2, gb6⟩, ⟨ff, gf6⟩, _, _, gn6, gl6, rows⟩, gF6, z6, frA⟩
  · rw [if_neg (fun q => hK1 ((nI_eq (by omega) (by omega)).mp q)), if_neg (fun q => hK1 q.1), if_neg (fun q => hK1 q.1)]
    exact ⟨h6, rfl, ⟨g6, ⟨f2, gb6⟩, ⟨ff, gf6⟩, _, _, gn6, gl6, rows⟩, gF6, z6, frA⟩
end MhSearch
