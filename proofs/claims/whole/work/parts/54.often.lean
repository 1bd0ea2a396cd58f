/-- what with() tells -/
def mh_wi (cs : List Nat) (s i : Nat) (r : Int64) : Prop := (mh_mn cs s = none ∧ r = -1) ∨ ((∃ v, mh_mn cs s = some v) ∧ ∃ n, mh_Td cs cs.length s i n ∧ r = lN n)
theorem mh_wi_u {cs : List Nat} {s i : Nat} {r r' : Int64} (h : mh_wi cs s i r) (k : mh_wi cs s i r') : r = r' := by
  rcases h with ⟨h1, h2⟩ | ⟨⟨v, h1⟩, n, h2, h3⟩
  · rcases k with ⟨_, k2⟩ | ⟨⟨v, k1⟩, _⟩
    · rw [h2, k2]
    · rw [h1] at k1; cases k1
  · rcases k with ⟨k1, _⟩ | ⟨_, m, k2, k3⟩
    · rw [h1] at k1; cases k1
    · rw [h3, k3, mh_Td_u _ _ h2 k2]
theorem mh_Td_0 {cs : List Nat} (hp : ∀ x, x ∈ cs → 1 ≤ x) {i : Nat} : ∀ j, i < j → mh_Td cs j 0 i 0 := by
  intro j
  induction j with
  | zero => intro h; omega
  | succ j ih =>
    intro h
    have hm : mh_Tm (cs.take (j + 1)) 0 (cs.getD j 0) 0 := by
      refine ⟨⟨[], ⟨fun x hx => absurd hx List.not_mem_nil, rfl, mh_mn0 _⟩, rfl⟩, fun l hl => ?_⟩
      have := hl.2.2
      rw [mh_mn0] at this
      have e : l = [] := List.eq_nil_of_length_eq_zero (Option.some.inj this).symm
      rw [e]
      exact Nat.le_refl _
    refine ⟨0, hm, ?_⟩
    by_cases hij : i = j
    · rw [if_pos hij]
    · rw [if_neg hij, Nat.zero_sub]
      exact ih (by omega)
theorem mh_whl_top {cs : List Nat} {w : Nat → Nat} (hms : mh_ms cs) (hne : cs ≠ []) (hE : mh_Ex (mh_tp cs) cs.dropLast (mh_wf (mh_tp cs)) w) {s v : Nat} (hw : w (s % mh_tp cs) ≠ mh_INF) (hf : mh_fm (mh_tp cs) w (s % mh_tp cs) ≤ s) (hv : mh_mn cs s = some v) :
    w (s % mh_tp cs) % 1000 ≤ v ∧ mh_Tm cs s (mh_tp cs) (v - w (s % mh_tp cs) % 1000) ∧ s - (v - w (s % mh_tp cs) % 1000) * mh_tp cs = mh_fm (mh_tp cs) w (s % mh_tp cs) := by
  obtain ⟨g1, g2, g3, g4⟩ := mh_tp_ok hms hne
  have gp := (g1.2 _ g1.1).1
  have hr := Nat.mod_lt s gp
  obtain ⟨l, h1, h2, h3, h4, h5, _⟩ := mh_wl_ex hE gp g2 hr hw
  have h6 := mh_lk_sum l (fun x hx => Nat.le_of_lt (g3 x (h1 x hx)).2.2)
  have e : mh_fm (mh_tp cs) w (s % mh_tp cs) = l.sum := by
    unfold mh_fm
    rw [h4, h5]
    omega
  obtain ⟨z1, z2⟩ := mh_whl_size hms hne hE hw hf
  rw [hv] at z1
  have z1 := Option.some.inj z1
  rw [← z1, h4] at z2
  rw [e] at hf ⊢
  rw [h5]
  have hvl : l.length ≤ v := by
    have : l.length * mh_tp cs ≤ v * mh_tp cs := by omega
    exact Nat.le_of_mul_le_mul_right this gp
  have hk : (v - l.length) * mh_tp cs = s - l.sum := by
    rw [Nat.sub_mul]
    omega
  have cz : l.count (mh_tp cs) = 0 := List.count_eq_zero.mpr (fun q => by have := (g3 _ (h1 _ q)).2.2; omega)
  refine ⟨hvl, ⟨⟨l ++ List.replicate (v - l.length) (mh_tp cs), ⟨fun x hx => ?_, ?_, ?_⟩, ?_⟩, fun l' hl' => ?_⟩, by omega⟩
  · rcases List.mem_append.mp hx with hx | hx
    · exact (g3 x (h1 x hx)).1
    · rw [(List.mem_replicate.mp hx).2]; exact g1.1
  · rw [List.sum_append_nat, List.sum_replicate_nat]; omega
  · rw [hv, List.length_append, List.length_replicate]; congr 1; omega
  · rw [List.count_append, List.count_replicate_self, cz]; omega
  · obtain ⟨l0, q1, q2, q3⟩ := mh_outc (mh_tp cs) l'
    have h0 : ∀ x, x ∈ l0 → x ∈ cs.dropLast := fun x hx => (g4 x (hl'.1 x (q1 x hx).1)).resolve_left (q1 x hx).2
    have h8 := mh_lk_sum l0 (fun x hx => Nat.le_of_lt (g3 x (h0 x hx)).2.2)
    have hlen := hl'.2.2
    rw [hv] at hlen
    have hlen := Option.some.inj hlen
    have hsm := hl'.2.1
    have k := (hE.2 l0 h0).1
    have e2 : s % mh_tp cs = l0.sum % mh_tp cs := by rw [← hsm, q2, Nat.add_mul_mod_self_right]
    rw [← e2, mh_wf_sum] at k
    have : (l0.length + l'.count (mh_tp cs)) * mh_tp cs = l0.length * mh_tp cs + l'.count (mh_tp cs) * mh_tp cs := Nat.add_mul _ _ _
    rw [← q3, ← hlen] at this
    omega
section MhOft
variable {h : mh_H} {o a u t k v : Nat} {cs : List Nat}
theorem mh_fx2_often (hF : mh_Fe h o a u t k v cs) {s i : Nat} (hi : i < cs.length) (hs : s ≤ 1000000000000000) :
    ∃ h' r, f_X2_often_e o (lN s) (nI i) h = some (r, h') ∧ mh_wi cs s i r ∧ mh_Fe h' o a u t k v cs ∧ mh_fr [o, t, k, v] h h' := by
  have hms := hF.ms
  have hl := hms.1.1
  have hp : ∀ x, x ∈ cs → 1 ≤ x := fun x hx => (hms.1.2 x hx).1
  have hne : cs ≠ [] := List.length_pos_iff.mp (by omega)
  obtain ⟨y, tn, ho⟩ := hF.ob
  obtain ⟨h1, e1, e2, e3, e4⟩ := mh_fx2_size hF hs
  unfold f_X2_often_e
  rw [mh_cal_eq ho, mh_b2_eq e1]
  cases hm : mh_mn cs s with
  | none =>
    have c1 : ¬ 0 < lg_cmp (mh_lz none) (0 : Int64) := by decide
    rw [if_neg c1]
    exact ⟨h1, _, rfl, Or.inl ⟨hm, rfl⟩, e2, e3⟩
  | some vv =>
    have hvb := mh_mn_b hp hm
    by_cases h0 : s = 0
    · subst h0
      rw [mh_mn0] at hm
      cases hm
      have c1 : ¬ 0 < lg_cmp (mh_lz (some 0)) (0 : Int64) := by decide
      rw [if_neg c1]
      exact ⟨h1, _, rfl, Or.inr ⟨⟨_, mh_mn0 cs⟩, 0, mh_Td_0 hp _ hi, rfl⟩, e2, e3⟩
    · obtain ⟨w, hW⟩ := e4 (by omega) hne
      have hW0 := hW
      obtain ⟨_, w1, w2, fv, w3, w4⟩ := hW
      obtain ⟨y1, tn1, ho1⟩ := e2.ob
      obtain ⟨fc1, hc1⟩ := e2.co
      obtain ⟨g1, g2, g3, g4⟩ := mh_tp_ok hms hne
      have gp := (g1.2 _ g1.1).1
      have hr := Nat.mod_lt s gp
      have hI : mh_INF < 2 ^ 31 := by unfold mh_INF; omega
      have vpos : 0 < vv := by
        refine Nat.pos_of_ne_zero (fun q => ?_)
        have := mh_mn_pay hm
        rw [q] at this
        have := mh_pay_max (B := 300) (fun x hx => (hms.1.2 x hx).2) this
        omega
      have c1 : 0 < lg_cmp (mh_lz (some vv)) (0 : Int64) := (mh_cgtN (a := vv) (b := 0) (by omega) (by omega)).mpr vpos
      have em : (nI (mh_tp cs)).toInt64 = lN (mh_tp cs) := nI_l (by omega)
      have c2 : ¬ lN (mh_tp cs) = 0 := fun q => by
        have := (mh_lN_inj (b := 0) (by omega) (by omega)).mp q
        omega
      have er : (mh_lrem (lN s) (lN (mh_tp cs))).toInt32 = nI (s % mh_tp cs) := by
        show (lN s - lN s / lN (mh_tp cs) * lN (mh_tp cs)).toInt32 = _
        rw [pk_lRem (by omega) gp (by omega), lN_i]
      have hwne : w (s % mh_tp cs) ≠ mh_INF := fun q => by
        rw [mh_whl_none hms hne w4 q] at hm
        cases hm
      obtain ⟨f1, f2, f3, f4, f5⟩ := mh_whl_fm hms hne w4 hr hwne
      have ew := mh_fx2_wheelFrom hW0 hr
      rw [if_neg hwne] at ew
      rw [if_pos c1, mh_gR_eq (k := 2) ho1 rfl, Option.bind_some, mh_cal_eq w3.1, mh_b2_eq (mh_fx0_modulus w3), em, mh_nz_eq c2, mh_nm_eq, er, mh_cal_eq ho1, mh_b2_eq ew, nI_l (by omega)]
      by_cases hc2 : mh_fm (mh_tp cs) w (s % mh_tp cs) ≤ s
      · obtain ⟨t1, t2, t3⟩ := mh_whl_top hms hne w4 hwne hc2 hm
        have el : nI cs.length - 1 = nI (cs.length - 1) := by
          rw [show cs.length = (cs.length - 1) + 1 by omega, nI_pred]
          rfl
        rw [if_pos ((mh_cgeN (by omega) (by omega)).mpr hc2), mh_gR_eq (k := 0) ho1 rfl, Option.bind_some, mh_cal_eq hc1.1, mh_b2_eq (mh_fx1_count hc1), el]
        have t2' : mh_Tm (cs.take (cs.length - 1 + 1)) s (cs.getD (cs.length - 1) 0) (vv - w (s % mh_tp cs) % 1000) := by
          rw [show cs.length - 1 + 1 = cs.length by omega, List.take_length]
          exact t2
        by_cases hil : i = cs.length - 1
        · rw [if_pos (by rw [hil]), mh_cal_eq ho1, mh_b2_eq (mh_fx2_beside hW0 hr), nI_l (by omega)]
          have e9 : mh_lz (some vv) - lN (w (s % mh_tp cs) % 1000) = lN (vv - w (s % mh_tp cs) % 1000) := lN_sub t1
          refine ⟨h1, _, rfl, Or.inr ⟨⟨_, hm⟩, vv - w (s % mh_tp cs) % 1000, ?_, e9⟩, e2, e3⟩
          rw [show cs.length = (cs.length - 1) + 1 by omega]
          exact ⟨_, t2', by rw [if_pos hil]⟩
        · have hlf : mh_Lf (mh_tp cs) w (mh_fm (mh_tp cs) w (s % mh_tp cs)) := ⟨by rw [f1]; exact hwne, by rw [f1]⟩
          obtain ⟨n, x1, x2, x3⟩ := mh_fx2_oftenByWheel hW0 (i := i) (by omega) hlf
          rw [f1] at x1
          rw [if_neg (fun q => hil ((nI_eq (by omega) (by omega)).mp q)), mh_cal_eq ho1, mh_b2_eq x1, nI_l (by omega)]
          refine ⟨h1, _, rfl, Or.inr ⟨⟨_, hm⟩, n, ?_, rfl⟩, e2, e3⟩
          rw [show cs.length = (cs.length - 1) + 1 by omega]
          refine ⟨_, t2', ?_⟩
          rw [if_neg hil]
          have t3 : s - (vv - w (s % mh_tp cs) % 1000) * cs.getD (cs.length - 1) 0 = mh_fm (mh_tp cs) w (s % mh_tp cs) := t3
          rw [t3]
          exact x2
      · obtain ⟨h2, n, x1, x2, x3, x4, x5⟩ := mh_fx2_oftenByTable hW0 (i := i) hi (s := s) (by omega) ⟨vv, hm⟩
        rw [if_neg (fun q => hc2 ((mh_cgeN (by omega) (by omega)).mp q)), lN_i, mh_cal_eq ho1, mh_b2_eq x1, nI_l (by omega)]
        exact ⟨h2, _, rfl, Or.inr ⟨⟨_, hm⟩, n, x2, rfl⟩, x4.1, e3.trans (x5.sub (by simp))⟩
end MhOft
