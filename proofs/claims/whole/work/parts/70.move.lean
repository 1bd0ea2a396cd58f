def mh_mv : List Nat → List Nat → List Nat → List Nat → List Nat → List Nat → Option (List Nat × List Nat × List Nat)
  | c :: cs, k :: ks, cF, nF, cT, nT => if k = 0 then mh_mv cs ks cF nF cT nT else match mh_ad cT nT c k with
    | none => none
    | some (c', n') => mh_mv cs ks cF (mh_sb cF nF c k) c' n'
  | [], _, _, nF, cT, nT => some (nF, cT, nT)
  | _ :: _, [], _, nF, cT, nT => some (nF, cT, nT)
theorem mh_mv_0 {c k : Nat} {cs ks cF nF cT nT : List Nat} (h : k = 0) : mh_mv (c :: cs) (k :: ks) cF nF cT nT = mh_mv cs ks cF nF cT nT := by rw [mh_mv, if_pos h]
theorem mh_mv_n {c k : Nat} {cs ks cF nF cT nT : List Nat} (h : k ≠ 0) (e : mh_ad cT nT c k = none) : mh_mv (c :: cs) (k :: ks) cF nF cT nT = none := by rw [mh_mv, if_neg h, e]
theorem mh_mv_s {c k : Nat} {cs ks cF nF cT nT c' n' : List Nat} (h : k ≠ 0) (e : mh_ad cT nT c k = some (c', n')) : mh_mv (c :: cs) (k :: ks) cF nF cT nT = mh_mv cs ks cF (mh_sb cF nF c k) c' n' := by rw [mh_mv, if_neg h, e]
theorem mh_ad_b {c n c' n' : List Nat} {v k : Nat} (h : mh_ad c n v k = some (c', n')) (hl : n.length = c.length) (hb : ∀ j, n.getD j 0 ≤ 20) (hk : k ≤ 20) : ∀ j, n'.getD j 0 ≤ 20 := by
  unfold mh_ad at h
  have ple := mh_pf_le c (nI v)
  by_cases hh : mh_hd c (nI v) = true
  · rw [if_pos hh] at h
    by_cases hq : n.getD (mh_pf c (nI v)) 0 + k ≤ 20
    · rw [if_pos hq] at h
      cases h
      intro j
      rw [mh_getD_set (by rw [hl]; exact mh_hd_pf hh)]
      by_cases hj : j = mh_pf c (nI v)
      · rw [if_pos hj]; exact hq
      · rw [if_neg hj]; exact hb j
    · rw [if_neg hq] at h; cases h
  · rw [if_neg hh] at h
    by_cases hf : c.length = 12
    · rw [if_pos hf] at h; cases h
    · rw [if_neg hf] at h
      cases h
      intro j
      rw [mh_ic_get (by rw [hl]; exact ple)]
      by_cases h1 : j < mh_pf c (nI v)
      · rw [if_pos h1]; exact hb j
      · rw [if_neg h1]
        by_cases h2 : j = mh_pf c (nI v)
        · rw [if_pos h2]; exact hk
        · rw [if_neg h2]; exact hb _
theorem mh_pw_ne {cs : List Nat} (h : cs.Pairwise (· < ·)) {i j : Nat} (hi : i < j) (hj : j < cs.length) : cs.getD i 0 < cs.getD j 0 := by
  have := List.pairwise_iff_getElem.mp h i j (by omega) hj hi
  rw [List.getD_eq_getElem?_getD, List.getElem?_eq_getElem (show i < cs.length by omega), List.getD_eq_getElem?_getD, List.getElem?_eq_getElem hj]
  exact this
theorem mh_hd_val {c : List Nat} {x : Int32} (h : mh_hd c x = true) : nI (c.getD (mh_pf c x) 0) = x := by
  simp only [mh_hd, decide_eq_true_eq] at h
  exact h.2
/-- what a purse can give -/
def mh_cgv (cs ks cF nF : List Nat) (i : Nat) : Prop := ∀ j, i ≤ j → j < cs.length → 0 < ks.getD j 0 → mh_hd cF (nI (cs.getD j 0)) = true ∧ ks.getD j 0 ≤ nF.getD (mh_pf cF (nI (cs.getD j 0))) 0
theorem mh_cgv_s {cs ks cF nF : List Nat} {i : Nat} (hms : mh_ms cs) (hl : nF.length = cF.length) (h : mh_cgv cs ks cF nF i) (hi : i < cs.length) (hk : 0 < ks.getD i 0) : mh_cgv cs ks cF (mh_sb cF nF (cs.getD i 0) (ks.getD i 0)) (i + 1) := fun j h1 h2 h3 => by
  obtain ⟨a1, a2⟩ := h j (by omega) h2 h3
  obtain ⟨b1, b2⟩ := h i (Nat.le_refl _) hi hk
  refine ⟨a1, ?_⟩
  unfold mh_sb
  rw [mh_getD_set (by rw [hl]; exact mh_hd_pf b1), if_neg (fun q => ?_)]
  · exact a2
  · have e1 := mh_hd_val a1
    have e2 := mh_hd_val b1
    rw [q, e2] at e1
    have u1 := hms.1.le i
    have u2 := hms.1.le j
    have := (nI_eq (by omega) (by omega)).mp e1
    have := mh_pw_ne hms.2 (show i < j by omega) h2
    omega
section MhMove
variable {h : mh_H} {o pu ap vp tp kv oF aF vF tF oT aT vT tT : Nat} {cs ns ks cF nF cT nT : List Nat} {fF gF fT gT : Nat → Int32}
theorem mh_PT.keep {h' : mh_H} (hP : mh_PT h o pu ap vp tp kv cs ns) (e0 : h' o = h o) (e1 : h' pu = h pu) (e2 : h' ap = h ap) (e3 : h' vp = h vp) (e4 : h' tp = h tp) (e5 : h' kv = h kv) : mh_PT h' o pu ap vp tp kv cs ns := by
  obtain ⟨f, g, fk, r1, r2, r3, r4, r5⟩ := hP
  exact ⟨f, g, fk, e0.trans r1, r2.keep e1 e2 e3 e4, e5.trans r3, r4, r5⟩
theorem mh_PT.pz (hP : mh_PT h o pu ap vp tp kv cs ns) : mh_pz cs ns := by obtain ⟨f, g, fk, r1, r2, r3, r4, r5⟩ := hP; exact r4
theorem mh_PT.purse (hP : mh_PT h o pu ap vp tp kv cs ns) : ∃ f g, mh_Pu h pu ap vp tp f g cs ns := by obtain ⟨f, g, fk, r1, r2, r3, r4, r5⟩ := hP; exact ⟨f, g, r2⟩
theorem mh_PT.ob (hP : mh_PT h o pu ap vp tp kv cs ns) : ∃ x, h o = some (.inr (8, [.ref pu, .ref kv, .int x])) := by obtain ⟨f, g, fk, r1, r2, r3, r4, r5⟩ := hP; exact ⟨_, r1⟩
theorem mh_PT.keys (hP : mh_PT h o pu ap vp tp kv cs ns) : ∃ fk, h kv = some (.inl (1, 20001, .inr (.inl fk))) := by obtain ⟨f, g, fk, r1, r2, r3, r4, r5⟩ := hP; exact ⟨fk, r3⟩
/-- the table and the purse that it keeps stay, when another purse changes -/
theorem mh_PT.off {h' : mh_H} (hP : mh_PT h o pu ap vp tp kv cs ns) {oX aX vX tX : Nat} {fX gX : Nat → Int32} {cX nX : List Nat} (hX : mh_Pu h oX aX vX tX fX gX cX nX) (d1 : ap ≠ aX) (d2 : vp ≠ vX) (d3 : vp ≠ tX) (d4 : tp ≠ vX) (d5 : tp ≠ tX) (hf : mh_fr [aX, vX, tX] h h') : mh_PT h' o pu ap vp tp kv cs ns := by
  obtain ⟨f, g, hp⟩ := hP.purse
  obtain ⟨x, ho⟩ := hP.ob
  obtain ⟨fk, hk⟩ := hP.keys
  refine hP.keep (hf _ ?_) (hf _ ?_) (hf _ ?_) (hf _ ?_) (hf _ ?_) (hf _ ?_)
  · simp [mh_apt ho hX.2.1.1 (fun q => by cases q), mh_apt ho hX.2.1.2.1 (fun q => by cases q), mh_apt ho hX.2.2.1 (fun q => by cases q)]
  · simp [mh_apt hp.1 hX.2.1.1 (fun q => by cases q), mh_apt hp.1 hX.2.1.2.1 (fun q => by cases q), mh_apt hp.1 hX.2.2.1 (fun q => by cases q)]
  · simp [d1, mh_apt hp.2.1.1 hX.2.1.2.1 (fun q => by cases q), mh_apt hp.2.1.1 hX.2.2.1 (fun q => by cases q)]
  · simp [mh_apt hp.2.1.2.1 hX.2.1.1 (fun q => by cases q), d2, d3]
  · simp [mh_apt hp.2.2.1 hX.2.1.1 (fun q => by cases q), d4, d5]
  · simp [mh_apt hk hX.2.1.1 (fun q => by cases q), mh_apt hk hX.2.1.2.1 (fun q => by cases q), mh_apt hk hX.2.2.1 (fun q => by cases q)]
theorem mh_Pu.off {h' : mh_H} {oX aX vX tX : Nat} {fX gX : Nat → Int32} {cX nX : List Nat} (hp : mh_Pu h oF aF vF tF fF gF cF nF) (hX : mh_Pu h oX aX vX tX fX gX cX nX) (d1 : aF ≠ aX) (d2 : vF ≠ vX) (d3 : vF ≠ tX) (d4 : tF ≠ vX) (d5 : tF ≠ tX) (hf : mh_fr [aX, vX, tX] h h') : mh_Pu h' oF aF vF tF fF gF cF nF := by
  refine hp.keep (hf _ ?_) (hf _ ?_) (hf _ ?_) (hf _ ?_)
  · simp [mh_apt hp.1 hX.2.1.1 (fun q => by cases q), mh_apt hp.1 hX.2.1.2.1 (fun q => by cases q), mh_apt hp.1 hX.2.2.1 (fun q => by cases q)]
  · simp [d1, mh_apt hp.2.1.1 hX.2.1.2.1 (fun q => by cases q), mh_apt hp.2.1.1 hX.2.2.1 (fun q => by cases q)]
  · simp [mh_apt hp.2.1.2.1 hX.2.1.1 (fun q => by cases q), d2, d3]
  · simp [mh_apt hp.2.2.1 hX.2.1.1 (fun q => by cases q), d4, d5]
theorem mh_fx8_move (hP : mh_PT h o pu ap vp tp kv cs ns) (hF : mh_Pu h oF aF vF tF fF gF cF nF) (hT : mh_Pu h oT aT vT tT fT gT cT nT) {s : Nat} (hs : s < 2 ^ 31) (hb : mh_bv cs ns s ks) (hg : mh_cgv cs ks cF nF 0) (bF : ∀ j, nF.getD j 0 ≤ 20) (bT : ∀ j, nT.getD j 0 ≤ 20)
    (pF : ap ≠ aF ∧ vp ≠ vF ∧ vp ≠ tF ∧ tp ≠ vF ∧ tp ≠ tF) (pT : ap ≠ aT ∧ vp ≠ vT ∧ vp ≠ tT ∧ tp ≠ vT ∧ tp ≠ tT) (fT' : aF ≠ aT ∧ vF ≠ vT ∧ vF ≠ tT ∧ tF ≠ vT ∧ tF ≠ tT) (dF : vF ≠ tF) (dT : vT ≠ tT) :
    ∃ r : Int32 × mh_H, f_X8_move_e o (nI s) oF oT h = some r ∧ mh_PT r.2 o pu ap vp tp kv cs ns ∧ mh_fr [tF, aT, vT, tT] h r.2 ∧ (∃ f1 g1 n1 f2 g2 c2 n2, mh_Pu r.2 oF aF vF tF f1 g1 cF n1 ∧ mh_Pu r.2 oT aT vT tT f2 g2 c2 n2 ∧ (∀ j, n1.getD j 0 ≤ 20) ∧ ((r.1 = 1 ∧ mh_mv cs ks cF nF cT nT = some (n1, c2, n2) ∧ ∀ j, n2.getD j 0 ≤ 20) ∨ (r.1 = 0 ∧ mh_mv cs ks cF nF cT nT = none))) := by
  have hz := hP.pz
  have hl := hz.1.1.1
  have hW : mh_WH = 7355827511386641 := rfl
  have hkl : ks.length = cs.length := hb.1.1.1
  obtain ⟨x1, e1, e2⟩ := mh_fx8_size hP hs
  obtain ⟨x2, e3, e4⟩ := mh_fx8_key hP hs
  have e2 := e2.resolve_left (fun q => q.1 ks hb.1)
  have e4 := e4.resolve_left (fun q => q.1 ks hb.1)
  obtain ⟨l1, a1, a2⟩ := e2
  obtain ⟨l2, a3, a4⟩ := e4
  rw [mh_bv_u hz a1 hb] at a2
  rw [mh_bv_u hz a3 hb] at a4
  have b1 := mh_dg_le hz hb.1
  have b2 := (mh_vp_dg hz hb.1).2.1
  have eD : (nI ks.sum).toInt64 * (7355827511386641 : Int64) - lN (ks.sum * mh_WH - mh_dg ks) = lN (mh_dg ks) := by
    have : (nI ks.sum).toInt64 * (7355827511386641 : Int64) = lN (ks.sum * mh_WH) := by
      rw [nI_l (by omega)]
      exact lN_mul _ mh_WH
    rw [this, lN_sub (by omega)]
    congr 1
    omega
  obtain ⟨xo, ho⟩ := hP.ob
  have key := mh_wh (fun n (q : Nat × mh_H) => f_X8_move_b21 n o oF oT (lN (mh_dg (ks.drop q.1))) (nI q.1) q.2) (fun (r : Int32 × mh_H) => some r)
    (fun q => q.1 ≤ cs.length ∧ mh_PT q.2 o pu ap vp tp kv cs ns ∧ mh_fr [tF, aT, vT, tT] h q.2 ∧ ∃ f1 g1 n1 f2 g2 c2 n2, mh_Pu q.2 oF aF vF tF f1 g1 cF n1 ∧ mh_Pu q.2 oT aT vT tT f2 g2 c2 n2 ∧ (∀ j, n1.getD j 0 ≤ 20) ∧ (∀ j, n2.getD j 0 ≤ 20) ∧ mh_cgv cs ks cF n1 q.1 ∧ mh_mv cs ks cF nF cT nT = mh_mv (cs.drop q.1) (ks.drop q.1) cF n1 c2 n2) (fun q => cs.length - q.1)
    (fun r => mh_PT r.2 o pu ap vp tp kv cs ns ∧ mh_fr [tF, aT, vT, tT] h r.2 ∧ (∃ f1 g1 n1 f2 g2 c2 n2, mh_Pu r.2 oF aF vF tF f1 g1 cF n1 ∧ mh_Pu r.2 oT aT vT tT f2 g2 c2 n2 ∧ (∀ j, n1.getD j 0 ≤ 20) ∧ ((r.1 = 1 ∧ mh_mv cs ks cF nF cT nT = some (n1, c2, n2) ∧ ∀ j, n2.getD j 0 ≤ 20) ∨ (r.1 = 0 ∧ mh_mv cs ks cF nF cT nT = none))))
    (fun n q hq => by
      obtain ⟨i, h1⟩ := q
      obtain ⟨q1, q2, q3, f1, g1, n1, f2, g2, c2, n2, q4, q5, q6, q7, q8, q9⟩ := hq
      have q1 : i ≤ cs.length := q1
      have q2 : mh_PT h1 o pu ap vp tp kv cs ns := q2
      have q3 : mh_fr [tF, aT, vT, tT] h h1 := q3
      have q4 : mh_Pu h1 oF aF vF tF f1 g1 cF n1 := q4
      have q5 : mh_Pu h1 oT aT vT tT f2 g2 c2 n2 := q5
      have q8 : mh_cgv cs ks cF n1 i := q8
      have q9 : mh_mv cs ks cF nF cT nT = mh_mv (cs.drop i) (ks.drop i) cF n1 c2 n2 := q9
      show (∃ s', _ ∧ _ ∧ f_X8_move_b21 (n + 1) o oF oT (lN (mh_dg (ks.drop i))) (nI i) h1 = _) ∨ ∃ r, _ ∧ f_X8_move_b21 (n + 1) o oF oT (lN (mh_dg (ks.drop i))) (nI i) h1 = _
      obtain ⟨x, wo⟩ := q2.ob
      obtain ⟨fp, gp, wp⟩ := q2.purse
      by_cases hi : i < cs.length
      · have c0 : ¬ nI cs.length ≤ nI i := fun q => absurd ((nI_leI (by omega) (by omega)).mp q) (by omega)
        have hci := hz.1.1.get hi
        have hdr : ks.drop i = ks.getD i 0 :: ks.drop (i + 1) := mh_drop (by omega)
        have hdc : cs.drop i = cs.getD i 0 :: cs.drop (i + 1) := mh_drop hi
        have hki : ks.getD i 0 ≤ 20 := by have := hb.1.1.2 i hi; have := hz.2.2.1 i; omega
        have hdb : mh_dg (ks.drop i) < 2 ^ 62 := by
          have a := mh_dg_lt (ks.drop i) (fun x hx => mh_Sv_20 hz.2.2.1 hb.1.1 x (List.mem_of_mem_drop hx))
          have b := Nat.pow_le_pow_right (show 0 < 21 by omega) (show (ks.drop i).length ≤ 12 by rw [List.length_drop]; omega)
          have c : (21 : Nat) ^ 12 = mh_WH := by decide
          omega
        have er : (mh_lrem (lN (mh_dg (ks.drop i))) (21 : Int64)).toInt32 = nI (ks.getD i 0) := by
          have : mh_lrem (lN (mh_dg (ks.drop i))) (21 : Int64) = lN (mh_dg (ks.drop i) % 21) := pk_lRem (b := 21) (by omega) (by omega) (by omega)
          rw [this, lN_i, hdr, mh_dg]
          congr 1
          omega
        have eq : lN (mh_dg (ks.drop i)) / (21 : Int64) = lN (mh_dg (ks.drop (i + 1))) := by
          have : lN (mh_dg (ks.drop i)) / (21 : Int64) = lN (mh_dg (ks.drop i) / 21) := pk_lDiv (b := 21) (by omega) (by omega) (by omega)
          rw [this, hdr, mh_dg]
          congr 1
          omega
        have pre : f_X8_move_b21 (n + 1) o oF oT (lN (mh_dg (ks.drop i))) (nI i) h1 = (if nI (ks.getD i 0) ≤ 0 then f_X8_move_b97 (f_X8_move_b21 n) o oF oT (lN (mh_dg (ks.drop (i + 1)))) (nI i) h1 else mh_b2 (mh_cal h1 oF 7 (f_X7_alter_e oF (nI (cs.getD i 0)) (-(nI (ks.getD i 0))) h1)) fun v15 h14 => if v15 = 0 then f_X8_move_b95 h14 else mh_b2 (mh_cal h14 oT 7 (f_X7_alter_e oT (nI (cs.getD i 0)) (nI (ks.getD i 0)) h14)) fun v17 h16 => if v17 = 0 then f_X8_move_b95 h16 else f_X8_move_b97 (f_X8_move_b21 n) o oF oT (lN (mh_dg (ks.drop (i + 1)))) (nI i) h16) := by
          rw [f_X8_move_b21, mh_gR_eq (k := 0) wo rfl, Option.bind_some, mh_cal_eq wp.1, mh_b2_eq (mh_fx7_coins wp), mh_cal_eq wp.2.1.1, mh_b2_eq (mh_fx1_count wp.2.1), if_neg c0, mh_nz_eq (by decide), mh_nm_eq, er, mh_nz_eq (by decide), mh_nm_eq, eq, mh_gR_eq (k := 0) wo rfl, Option.bind_some, mh_cal_eq wp.1, mh_b2_eq (mh_fx7_coins wp), mh_cal_eq wp.2.1.1, mh_b2_eq (mh_fx1_value wp.2.1 (by omega))]
        by_cases hk0 : ks.getD i 0 = 0
        · left
          refine ⟨(i + 1, h1), ⟨hi, q2, q3, f1, g1, n1, f2, g2, c2, n2, q4, q5, q6, q7, fun j h1 => q8 j (by have h1 : i + 1 ≤ j := h1; omega), ?_⟩, by show cs.length - (i + 1) < cs.length - i; omega, ?_⟩
          · rw [q9, hdr, hdc, mh_mv_0 hk0]
          · rw [pre, if_pos (by rw [hk0]; decide)]
            unfold f_X8_move_b97
            rw [mh_nm_eq, mh_inc]
        · have hkp : 0 < ks.getD i 0 := by omega
          obtain ⟨u1, u2⟩ := q8 i (Nat.le_refl _) hi hkp
          obtain ⟨h2, g3, y1, y2, y3⟩ := mh_fx7_take q4 dF u1 u2 (q6 _)
          have fr3 : mh_fr [aF, vF, tF] h1 h2 := y3.sub (by simp)
          have q5' := q5.off q4 fT'.1.symm fT'.2.1.symm fT'.2.2.2.1.symm fT'.2.2.1.symm fT'.2.2.2.2.symm fr3
          have q2' := q2.off q4 pF.1 pF.2.1 pF.2.2.1 pF.2.2.2.1 pF.2.2.2.2 fr3
          obtain ⟨⟨rv, h3⟩, v1, ⟨f5, g5, c5, n5, v2, v3⟩, v4⟩ := mh_fx7_give q5' dT (fun j => by have := q7 j; omega) (x := cs.getD i 0) (k := ks.getD i 0) (by omega) hki
          have v2 : mh_Pu h3 oT aT vT tT f5 g5 c5 n5 := v2
          have v4 : mh_fr [aT, vT, tT] h2 h3 := v4
          have w4 := y2.off q5' fT'.1 fT'.2.1 fT'.2.2.1 fT'.2.2.2.1 fT'.2.2.2.2 v4
          have w2 := q2'.off q5' pT.1 pT.2.1 pT.2.2.1 pT.2.2.2.1 pT.2.2.2.2 v4
          have frr : mh_fr [tF, aT, vT, tT] h h3 := q3.trans ((y3.sub (by simp)).trans (v4.sub (by simp)))
          have n1l : n1.length = cF.length := q4.2.2.2.1
          have b6 : ∀ j, (mh_sb cF n1 (cs.getD i 0) (ks.getD i 0)).getD j 0 ≤ 20 := fun j => by
            unfold mh_sb
            rw [mh_getD_set (by rw [n1l]; exact mh_hd_pf u1)]
            by_cases hj : j = mh_pf cF (nI (cs.getD i 0))
            · rw [if_pos hj]; have := q6 (mh_pf cF (nI (cs.getD i 0))); omega
            · rw [if_neg hj]; exact q6 j
          have c1 : ¬ nI (ks.getD i 0) ≤ 0 := nI_nle hkp (by omega)
          rcases v3 with ⟨v5, v6⟩ | ⟨v5, v6⟩
          · left
            have v5 : rv = 1 := v5
            subst v5
            refine ⟨(i + 1, h3), ⟨hi, w2, frr, f1, g3, _, f5, g5, c5, n5, w4, v2, b6, mh_ad_b v6 q5.2.2.2.1 q7 hki, mh_cgv_s hz.1 n1l q8 hi hkp, ?_⟩, by show cs.length - (i + 1) < cs.length - i; omega, ?_⟩
            · rw [q9, hdr, hdc, mh_mv_s hk0 v6]
            · rw [pre, if_neg c1, mh_cal_eq q4.1, mh_b2_eq y1, if_neg (by decide), mh_cal_eq q5'.1, mh_b2_eq v1, if_neg (by decide)]
              unfold f_X8_move_b97
              rw [mh_nm_eq, mh_inc]
          · right
            have v5 : rv = 0 := v5
            subst v5
            refine ⟨(0, h3), ⟨w2, frr, f1, g3, _, f5, g5, c5, n5, w4, v2, b6, Or.inr ⟨rfl, ?_⟩⟩, ?_⟩
            · rw [q9, hdr, hdc, mh_mv_n hk0 v6]
            · rw [pre, if_neg c1, mh_cal_eq q4.1, mh_b2_eq y1, if_neg (by decide), mh_cal_eq q5'.1, mh_b2_eq v1, if_pos rfl]
              rfl
      · right
        have c0 : nI cs.length ≤ nI i := (nI_leI (by omega) (by omega)).mpr (by omega)
        refine ⟨(1, h1), ⟨q2, q3, f1, g1, n1, f2, g2, c2, n2, q4, q5, q6, Or.inl ⟨rfl, ?_, q7⟩⟩, ?_⟩
        · rw [q9, List.drop_eq_nil_of_le (by omega)]
          rfl
        · rw [f_X8_move_b21, mh_gR_eq (k := 0) wo rfl, Option.bind_some, mh_cal_eq wp.1, mh_b2_eq (mh_fx7_coins wp), mh_cal_eq wp.2.1.1, mh_b2_eq (mh_fx1_count wp.2.1), if_pos c0]
          rfl)
    12 mh_fu (0, h) (by show cs.length - 0 ≤ 12; omega) ⟨Nat.zero_le _, hP, mh_fr.rfl, fF, gF, nF, fT, gT, cT, nT, hF, hT, bF, bT, hg, by rw [List.drop_zero, List.drop_zero]⟩ (mh_fuel _ (by omega))
  obtain ⟨r, z1, z2⟩ := key
  have z2 : f_X8_move_b21 mh_fu o oF oT (lN (mh_dg (ks.drop 0))) (nI 0) h = some r := z2
  rw [List.drop_zero, nI_0] at z2
  refine ⟨r, ?_, z1⟩
  unfold f_X8_move_e
  rw [a2] at e1
  rw [a4] at e3
  rw [mh_cal_eq ho, mh_b2_eq e1, mh_cal_eq ho, mh_b2_eq e3, mh_nm_eq, eD, mh_nm_eq]
  exact z2
end MhMove
