theorem mh_msb (x : Int32) : 0 ≤ x ↔ x.toBitVec.msb = false := by
  rw [Int32.le_iff_toInt_le, BitVec.msb_eq_toInt, decide_eq_false_iff_not, Int32.toInt_toBitVec]
  show (0 : Int) ≤ x.toInt ↔ _
  omega
theorem mh_xors (x y : Int32) : 0 ≤ x ^^^ y ↔ (0 ≤ x ↔ 0 ≤ y) := by
  rw [mh_msb, mh_msb, mh_msb, Int32.toBitVec_xor, BitVec.msb_xor]
  cases x.toBitVec.msb <;> cases y.toBitVec.msb <;> simp
theorem mh_fj9_floorMod {h : mh_H} {x c g : Nat} (hx : x < g) (hc : c < g) (hg : g ≤ 300) : f_J9_floorMod_7cf53_e (nI x - nI c) (nI g) h = some (nI ((x + g - c) % g), h) := by
  unfold f_J9_floorMod_7cf53_e
  rw [mh_nz_eq (nI_ne0 (by omega) (by omega)), mh_nm_eq]
  have hgp : 0 ≤ nI g := nI_pos' (by omega)
  by_cases hle : c ≤ x
  · have e : nI x - nI c = nI (x - c) := pk_sub hle
    have e2 : mh_irem (nI (x - c)) (nI g) = nI (x - c) := by
      show nI (x - c) - nI (x - c) / nI g * nI g = _
      rw [pk_rem (by omega) (by omega) (by omega), Nat.mod_eq_of_lt (by omega)]
    rw [e, e2, if_pos ((mh_xors _ _).mpr ⟨fun _ => hgp, fun _ => nI_pos' (by omega)⟩), show x + g - c = x - c + g by omega, Nat.add_mod_right, Nat.mod_eq_of_lt (by omega)]
    rfl
  · have ti : (nI x - nI c).toInt = (x : Int) - c := pk_sub_toInt (by omega) (by omega)
    have dz : (nI x - nI c) / nI g = 0 := by
      apply Int32.toInt_inj.1
      rw [Int32.toInt_div_of_ne_right _ _ (mh_nI_m1 (by omega)), ti, nI_toInt (by omega)]
      show ((x : Int) - c).tdiv g = 0
      rw [show (x : Int) - c = -((c : Int) - x) by omega, Int.neg_tdiv, Int.tdiv_eq_zero_of_lt (by omega) (by omega)]
      rfl
    have e2 : mh_irem (nI x - nI c) (nI g) = nI x - nI c := by
      show nI x - nI c - (nI x - nI c) / nI g * nI g = _
      rw [dz, Int32.zero_mul, Int32.sub_zero]
    have n0 : ¬ 0 ≤ nI x - nI c := fun q => by
      rw [Int32.le_iff_toInt_le, ti] at q
      have q : (0 : Int) ≤ (x : Int) - c := q
      omega
    have n1 : ¬ nI x - nI c = 0 := fun q => n0 (by rw [q]; decide)
    rw [e2, if_neg (fun q => n0 (((mh_xors _ _).mp q).mpr hgp)), if_neg n1, Nat.mod_eq_of_lt (by omega)]
    have e3 : nI x - nI c + nI g = nI (x + g) - nI c := by
      rw [Int32.sub_eq_add_neg, Int32.sub_eq_add_neg, Int32.add_assoc, Int32.add_comm (-nI c), ← Int32.add_assoc, nI_add]
    rw [e3, pk_sub (by omega)]
section MhOftW
variable {h : mh_H} {o a u t k v : Nat} {cs : List Nat} {w : Nat → Nat}
theorem mh_fx2_leadsBest (hF : mh_Fw h o a u t k v cs w) {b r wt : Nat} (hb : b < mh_tp cs) (hr : r < mh_tp cs) (hwt : wt ≤ 299001) (hwr : w r ≠ mh_INF) : f_X2_leadsBest_e o (nI b) (nI r) (nI wt) h = some (mh_bz (decide (w b ≠ mh_INF ∧ w b + wt = w r)), h) := by
  obtain ⟨hF, h1, h2, fv, h3, h4⟩ := hF
  obtain ⟨y, tn, ho⟩ := hF.ob
  have hms := hF.ms
  obtain ⟨g1, g2, g3, g4⟩ := mh_tp_ok hms h2
  have gp := (g1.2 _ g1.1).1
  have wB : ∀ r, r < mh_tp cs → w r ≠ mh_INF → w r ≤ 89401299 := fun r hr hw => by
    have := mh_Ex_b gp h4 (W := 299001) (fun x hx => by have := (g3 x hx).2; unfold mh_wf; omega) hr hw
    have := Nat.mul_le_mul_right 299001 (show mh_tp cs - 1 ≤ 299 by omega)
    omega
  have hI : mh_INF < 2 ^ 31 := by unfold mh_INF; omega
  have hwb := (h3.2.2.2.2 b hb).2
  have bR := wB r hr hwr
  unfold f_X2_leadsBest_e
  rw [mh_gR_eq (k := 2) ho rfl, Option.bind_some, mh_cal_eq h3.1, mh_b2_eq (mh_fx0_weight h3 hb)]
  by_cases c1 : w b = mh_INF
  · rw [if_pos (by rw [c1]; rfl), decide_eq_false (fun q => q.1 c1)]
    rfl
  · have bB := wB b hb c1
    rw [if_neg (by rw [mh_nI_inf, nI_eq (by omega) hI]; exact c1), mh_gR_eq (k := 2) ho rfl, Option.bind_some, mh_cal_eq h3.1, mh_b2_eq (mh_fx0_weight h3 hb), mh_gR_eq (k := 2) ho rfl, Option.bind_some, mh_cal_eq h3.1, mh_b2_eq (mh_fx0_weight h3 hr), nI_add]
    by_cases c2 : w b + wt = w r
    · rw [if_pos (by rw [c2]), decide_eq_true ⟨c1, c2⟩]
      rfl
    · rw [if_neg (fun q => c2 ((nI_eq (by omega) (by omega)).mp q)), decide_eq_false (fun q => c2 q.2)]
      rfl
theorem mh_oftW_in (k16 : Nat → Int32 → Int32 → Int32 → Int32 → mh_H → Option (Int32 × mh_H)) {x2 : Int32} (hF : mh_Fw h o a u t k v cs w) {j s vv : Nat} (hj : j < cs.length - 1) (hs : mh_Lf (mh_tp cs) w s) (hv : mh_mn cs.dropLast s = some vv) :
    ∃ i, (mh_Ak cs.dropLast s (cs.getD j 0) vv i ∧ mh_Tm cs.dropLast s (cs.getD j 0) i ∧ mh_Lf (mh_tp cs) w (s - i * cs.getD j 0)) ∧ f_X2_oftenByWheel_b53 k16 mh_fu o x2 (nI (s % mh_tp cs)) 0 (nI j) (nI ((s % mh_tp cs + mh_tp cs - cs.getD j 0) % mh_tp cs)) h = f_X2_oftenByWheel_b109 k16 o x2 (nI ((s - i * cs.getD j 0) % mh_tp cs)) (nI i) (nI j) h := by
  have hF0 := hF
  obtain ⟨hF, h1, h2, fv, h3, h4⟩ := hF
  obtain ⟨y, tn, ho⟩ := hF.ob
  obtain ⟨fc, hc⟩ := hF.co
  have hms := hF.ms
  have hl := hms.1.1
  obtain ⟨g1, g2, g3, g4⟩ := mh_tp_ok hms h2
  have gp := (g1.2 _ g1.1).1
  have hcm : cs.getD j 0 ∈ cs.dropLast := by
    have : cs.getD j 0 = cs.dropLast.getD j 0 := by
      rw [List.getD_eq_getElem?_getD, List.getD_eq_getElem?_getD, List.getElem?_dropLast, if_pos hj]
    rw [this]
    exact mh_get_mem (by rw [List.length_dropLast]; exact hj)
  have hcb := (g3 _ hcm).2
  have hD : ∀ x, x ∈ cs.dropLast → 1 ≤ x ∧ x < mh_tp cs := fun x hx => (g3 x hx).2
  have vb : vv < mh_tp cs := by
    obtain ⟨o1, o2, _⟩ := mh_Lf_op h4 gp g2 hD hs
    rw [hv] at o1
    cases o1
    exact o2
  have key := mh_wh (fun n (i : Nat) => f_X2_oftenByWheel_b53 k16 n o x2 (nI ((s - i * cs.getD j 0) % mh_tp cs)) (nI i) (nI j) (nI (((s - i * cs.getD j 0) % mh_tp cs + mh_tp cs - cs.getD j 0) % mh_tp cs)) h)
    (fun (i : Nat) => f_X2_oftenByWheel_b109 k16 o x2 (nI ((s - i * cs.getD j 0) % mh_tp cs)) (nI i) (nI j) h)
    (fun i => mh_Ak cs.dropLast s (cs.getD j 0) vv i ∧ mh_Lf (mh_tp cs) w (s - i * cs.getD j 0)) (fun i => vv - i)
    (fun i => mh_Ak cs.dropLast s (cs.getD j 0) vv i ∧ mh_Tm cs.dropLast s (cs.getD j 0) i ∧ mh_Lf (mh_tp cs) w (s - i * cs.getD j 0))
    (fun n i hq => by
      obtain ⟨q1, q2⟩ := hq
      show (∃ s', _ ∧ _ ∧ f_X2_oftenByWheel_b53 k16 (n + 1) o x2 (nI ((s - i * cs.getD j 0) % mh_tp cs)) (nI i) (nI j) (nI (((s - i * cs.getD j 0) % mh_tp cs + mh_tp cs - cs.getD j 0) % mh_tp cs)) h = _) ∨ ∃ r, _ ∧ f_X2_oftenByWheel_b53 k16 (n + 1) o x2 (nI ((s - i * cs.getD j 0) % mh_tp cs)) (nI i) (nI j) (nI (((s - i * cs.getD j 0) % mh_tp cs + mh_tp cs - cs.getD j 0) % mh_tp cs)) h = _
      have hr := Nat.mod_lt (s - i * cs.getD j 0) gp
      have hbf := Nat.mod_lt ((s - i * cs.getD j 0) % mh_tp cs + mh_tp cs - cs.getD j 0) gp
      have hiv := q1.2.1
      have pl := mh_Lf_peel h4 gp g2 hD hcm q2 q1.2.2
      have e1 : s - i * cs.getD j 0 - cs.getD j 0 = s - (i + 1) * cs.getD j 0 := by rw [Nat.succ_mul]; omega
      have iff : mh_Ak cs.dropLast s (cs.getD j 0) vv (i + 1) ↔ (cs.getD j 0 ≤ s - i * cs.getD j 0 ∧ 1 ≤ vv - i ∧ mh_mn cs.dropLast (s - i * cs.getD j 0 - cs.getD j 0) = some (vv - i - 1)) := by
        unfold mh_Ak
        rw [e1, Nat.succ_mul, show vv - i - 1 = vv - (i + 1) by omega]
        have := q1.1
        constructor
        · intro ⟨a1, a2, a3⟩; exact ⟨by omega, by omega, a3⟩
        · intro ⟨a1, a2, a3⟩; exact ⟨by omega, by omega, a3⟩
      have c1 : ¬ (300 : Int32) ≤ nI i := fun q => absurd ((mh_lel (a := 300) 300 rfl (by omega) (by omega)).mp q) (by omega)
      have lb := mh_fx2_leadsBest (wt := mh_wf (mh_tp cs) (cs.getD j 0)) hF0 hbf hr (by unfold mh_wf; omega) q2.1
      by_cases hA : mh_Ak cs.dropLast s (cs.getD j 0) vv (i + 1)
      · left
        have hp := iff.mp hA
        obtain ⟨n1, n2⟩ := mh_Lf_next h4 gp g2 hD hcm q2 q1.2.2 hp
        rw [e1] at n1 n2
        rw [decide_eq_true (pl.mpr hp)] at lb
        refine ⟨i + 1, ⟨hA, n1⟩, by have := hA.2.1; omega, ?_⟩
        rw [f_X2_oftenByWheel_b53, if_neg c1, mh_cal_eq ho, mh_b2_eq (mh_fx2_weightOf ho hc hms (by omega)), mh_cal_eq ho, mh_b2_eq lb, if_neg (by decide), mh_gR_eq (k := 0) ho rfl, Option.bind_some, mh_cal_eq hc.1, mh_b2_eq (mh_fx1_value hc (by omega)), mh_gR_eq (k := 2) ho rfl, Option.bind_some, mh_cal_eq h3.1, mh_b2_eq (mh_fx0_modulus h3), mh_b2_eq (mh_fj9_floorMod hbf (by omega) g2), mh_nm_eq, mh_inc, n2]
      · right
        rw [decide_eq_false (fun q => hA (iff.mpr (pl.mp q)))] at lb
        refine ⟨i, ⟨q1, mh_Tm_of hv hcm q1 hA, q2⟩, ?_⟩
        rw [f_X2_oftenByWheel_b53, if_neg c1, mh_cal_eq ho, mh_b2_eq (mh_fx2_weightOf ho hc hms (by omega)), mh_cal_eq ho, mh_b2_eq lb, if_pos mh_bz_f])
    vv mh_fu 0 (by omega) ⟨mh_Ak_0 hv, by rw [Nat.zero_mul, Nat.sub_zero]; exact hs⟩ (mh_fuel _ (by omega))
  obtain ⟨i, e1, e2⟩ := key
  rw [Nat.zero_mul, Nat.sub_zero, nI_0] at e2
  exact ⟨i, e1, e2⟩
theorem mh_fx2_oftenByWheel (hF : mh_Fw h o a u t k v cs w) {s i : Nat} (hi : i < cs.length - 1) (hs : mh_Lf (mh_tp cs) w s) :
    ∃ n, f_X2_oftenByWheel_e o (nI (s % mh_tp cs)) (nI i) h = some (nI n, h) ∧ mh_Td cs (cs.length - 1) s i n ∧ n < 300 := by
  have hF0 := hF
  obtain ⟨hF, h1, h2, fv, h3, h4⟩ := hF
  obtain ⟨y, tn, ho⟩ := hF.ob
  obtain ⟨fc, hc⟩ := hF.co
  have hms := hF.ms
  have hl := hms.1.1
  obtain ⟨g1, g2, g3, g4⟩ := mh_tp_ok hms h2
  have gp := (g1.2 _ g1.1).1
  have hD : ∀ x, x ∈ cs.dropLast → 1 ≤ x ∧ x < mh_tp cs := fun x hx => (g3 x hx).2
  have tk1 : ∀ m, m ≤ cs.length - 1 → ∀ x, x ∈ cs.take m → x ∈ cs.dropLast := fun m hm x hx => by
    rw [List.dropLast_eq_take]
    exact (List.take_subset_take_left cs hm) hx
  have key := mh_wh (fun n (q : Nat × Nat × Nat) => f_X2_oftenByWheel_b16 n o (nI i) (nI (q.2.1 % mh_tp cs)) (nI q.2.2) (nI q.1 - 1) h)
    (fun (n : Nat) => some (nI n, h))
    (fun q => ((q.1 = i ∧ mh_Td cs (cs.length - 1) s i q.2.2 ∧ q.2.2 < 300) ∨ (i < q.1 ∧ q.1 ≤ cs.length - 1 ∧ mh_Lf (mh_tp cs) w q.2.1 ∧ mh_Us cs.dropLast (cs.take q.1) q.2.1 ∧ ∀ n, mh_Td cs q.1 q.2.1 i n → mh_Td cs (cs.length - 1) s i n))) (fun q => q.1)
    (fun n => mh_Td cs (cs.length - 1) s i n ∧ n < 300)
    (fun n q hq => by
      obtain ⟨j, left, tk⟩ := q
      show (∃ s', _ ∧ _ ∧ f_X2_oftenByWheel_b16 (n + 1) o (nI i) (nI (left % mh_tp cs)) (nI tk) (nI j - 1) h = _) ∨ ∃ r, _ ∧ f_X2_oftenByWheel_b16 (n + 1) o (nI i) (nI (left % mh_tp cs)) (nI tk) (nI j - 1) h = _
      rcases hq with ⟨e, t1, t2⟩ | ⟨t1, t2, t3, t4, t5⟩
      · right
        have e : j = i := e
        subst e
        refine ⟨tk, ⟨t1, t2⟩, ?_⟩
        rw [f_X2_oftenByWheel_b16, if_pos (mh_pred_lt (by omega))]
        rfl
      · have t1 : i < j := t1
        have t2 : j ≤ cs.length - 1 := t2
        have t3 : mh_Lf (mh_tp cs) w left := t3
        have t4 : mh_Us cs.dropLast (cs.take j) left := t4
        have t5 : ∀ n, mh_Td cs j left i n → mh_Td cs (cs.length - 1) s i n := t5
        obtain ⟨j, rfl⟩ : ∃ m, j = m + 1 := ⟨j - 1, by omega⟩
        left
        obtain ⟨vv, hvv⟩ := t4.1
        have vb : vv < mh_tp cs := by
          obtain ⟨o1, o2, _⟩ := mh_Lf_op h4 gp g2 hD t3
          rw [hvv] at o1
          cases o1
          exact o2
        obtain ⟨tk', ⟨z1, z2, z3⟩, z5⟩ := mh_oftW_in (f_X2_oftenByWheel_b16 n) (x2 := nI i) hF0 (show j < cs.length - 1 by omega) t3 hvv
        have zm := mh_Us_mx (tk1 (j + 1) (by omega)) t4 z2
        have hcm : cs.getD j 0 ∈ cs.dropLast := tk1 (j + 1) (by omega) _ (by rw [mh_take_s (by omega)]; exact List.mem_append_right _ (List.mem_singleton.mpr rfl))
        have hcb := (g3 _ hcm).2
        have c1 : ¬ nI j < nI i := fun q => absurd ((nI_ltI (by omega) (by omega)).mp q) (by omega)
        have c2 : ¬ nI j < 0 := nI_pos (by omega)
        have hr := Nat.mod_lt left gp
        refine ⟨(j, left - tk' * cs.getD j 0, tk'), ?_, by show j < j + 1; omega, ?_⟩
        · by_cases hij : i = j
          · left
            exact ⟨hij.symm, t5 tk' ⟨tk', zm, by rw [if_pos hij]⟩, by have := z1.2.1; show tk' < 300; omega⟩
          · right
            refine ⟨by show i < j; omega, by show j ≤ cs.length - 1; omega, z3, ?_, fun n hn => t5 n ⟨tk', zm, by rw [if_neg hij]; exact hn⟩⟩
            exact mh_Us_next hvv hcm t4 z1 z2 (fun x hx hne => mh_take_ne (by omega) hx hne)
        · rw [f_X2_oftenByWheel_b16, nI_pred, if_neg c1, if_neg c2, mh_nm_eq, mh_gR_eq (k := 0) ho rfl, Option.bind_some, mh_cal_eq hc.1, mh_b2_eq (mh_fx1_value hc (by omega)), mh_gR_eq (k := 2) ho rfl, Option.bind_some, mh_cal_eq h3.1, mh_b2_eq (mh_fx0_modulus h3), mh_b2_eq (mh_fj9_floorMod hr (by omega) g2), z5]
          unfold f_X2_oftenByWheel_b109
          rw [mh_nm_eq, mh_decN])
    (cs.length - 1) mh_fu (cs.length - 1, s, 0) (by show cs.length - 1 ≤ cs.length - 1; omega)
    (Or.inr ⟨hi, Nat.le_refl _, hs, ⟨⟨_, (mh_Lf_op h4 gp g2 hD hs).1⟩, fun l hl x hx => by show x ∈ cs.take (cs.length - 1); rw [← List.dropLast_eq_take]; exact hl.1 x hx⟩, fun n hn => hn⟩) (mh_fuel _ (by omega))
  obtain ⟨n, ⟨e1, e2⟩, e5⟩ := key
  refine ⟨n, ?_, e1, e2⟩
  unfold f_X2_oftenByWheel_e
  rw [mh_nm_eq, mh_gR_eq (k := 0) ho rfl, Option.bind_some, mh_cal_eq hc.1, mh_b2_eq (mh_fx1_count hc), mh_nm_eq]
  have e5 : f_X2_oftenByWheel_b16 mh_fu o (nI i) (nI (s % mh_tp cs)) (nI 0) (nI (cs.length - 1) - 1) h = some (nI n, h) := e5
  have e6 : nI cs.length - (2 : Int32) = nI (cs.length - 1) - 1 := by
    rw [show cs.length - 1 = (cs.length - 2) + 1 by omega, nI_pred]
    exact pk_sub (b := 2) (by omega)
  rw [nI_0] at e5
  rw [e6]
  exact e5
end MhOftW
