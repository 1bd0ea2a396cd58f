theorem mh_decN (j : Nat) : nI j + Int32.ofInt (-1) = nI j - 1 := by
  rw [Int32.sub_eq_add_neg]
  rfl
theorem mh_pred_lt {j : Nat} (h : j < 2 ^ 31) : nI j - 1 < nI j := by
  cases j with
  | zero => decide
  | succ j => rw [nI_pred]; exact (nI_ltI (by omega) h).mpr (by omega)
section MhOftT
variable {h : mh_H} {o a u t k v : Nat} {cs : List Nat} {w : Nat → Nat}
theorem mh_oftT_in (k16 : Nat → Int32 → Int32 → Int32 → Int32 → mh_H → Option (Int32 × mh_H)) {x2 : Int32} (hF : mh_Fw h o a u t k v cs w) {j s vv : Nat} (hj : j < cs.length) (hs : s < 90000) (hv : mh_mn cs s = some vv) :
    ∃ q : Nat × mh_H, (mh_Ak cs s (cs.getD j 0) vv q.1 ∧ mh_Tm cs s (cs.getD j 0) q.1 ∧ mh_Fw q.2 o a u t k v cs w ∧ mh_fr [o, t] h q.2) ∧ f_X2_oftenByTable_b56 k16 mh_fu o x2 (nI s) 0 (nI j) (nI (cs.getD j 0)) (nI (s / cs.getD j 0)) h = f_X2_oftenByTable_b92 k16 o x2 (nI (s - q.1 * cs.getD j 0)) (nI q.1) (nI j) q.2 := by
  have hms := hF.1.ms
  have hp : ∀ x, x ∈ cs → 1 ≤ x := fun x hx => (hms.1.2 x hx).1
  have hc := mh_get_mem hj
  have hc1 := hms.1.get hj
  have hdl := Nat.div_le_self s (cs.getD j 0)
  have key := mh_wh (fun n (q : Nat × mh_H) => f_X2_oftenByTable_b56 k16 n o x2 (nI (s - q.1 * cs.getD j 0)) (nI q.1) (nI j) (nI (cs.getD j 0)) (nI (s / cs.getD j 0)) q.2)
    (fun (q : Nat × mh_H) => f_X2_oftenByTable_b92 k16 o x2 (nI (s - q.1 * cs.getD j 0)) (nI q.1) (nI j) q.2)
    (fun q => mh_Ak cs s (cs.getD j 0) vv q.1 ∧ mh_Fw q.2 o a u t k v cs w ∧ mh_fr [o, t] h q.2) (fun q => vv - q.1)
    (fun q => mh_Ak cs s (cs.getD j 0) vv q.1 ∧ mh_Tm cs s (cs.getD j 0) q.1 ∧ mh_Fw q.2 o a u t k v cs w ∧ mh_fr [o, t] h q.2)
    (fun n q hq => by
      obtain ⟨i, h1⟩ := q
      obtain ⟨q1, q2, q3⟩ := hq
      have q1 : mh_Ak cs s (cs.getD j 0) vv i := q1
      have q2 : mh_Fw h1 o a u t k v cs w := q2
      have q3 : mh_fr [o, t] h h1 := q3
      show (∃ s', _ ∧ _ ∧ f_X2_oftenByTable_b56 k16 (n + 1) o x2 (nI (s - i * cs.getD j 0)) (nI i) (nI j) (nI (cs.getD j 0)) (nI (s / cs.getD j 0)) h1 = _) ∨ ∃ r, _ ∧ f_X2_oftenByTable_b56 k16 (n + 1) o x2 (nI (s - i * cs.getD j 0)) (nI i) (nI j) (nI (cs.getD j 0)) (nI (s / cs.getD j 0)) h1 = _
      have his : i ≤ s / cs.getD j 0 := (Nat.le_div_iff_mul_le hc1.1).mpr q1.1
      obtain ⟨y, tn, ho⟩ := q2.1.ob
      by_cases hi : i < s / cs.getD j 0
      · have c1 : ¬ nI (s / cs.getD j 0) ≤ nI i := fun q => absurd ((nI_leI (by omega) (by omega)).mp q) (by omega)
        have hle : (i + 1) * cs.getD j 0 ≤ s := (Nat.le_div_iff_mul_le hc1.1).mp hi
        rw [Nat.succ_mul] at hle
        have e0 : nI (s - i * cs.getD j 0) - nI (cs.getD j 0) = nI (s - i * cs.getD j 0 - cs.getD j 0) := pk_sub (by omega)
        have e1 : s - (i + 1) * cs.getD j 0 = s - i * cs.getD j 0 - cs.getD j 0 := by rw [Nat.succ_mul]; omega
        obtain ⟨h2, t1, t2, t3⟩ := q2.table (s := s - i * cs.getD j 0 - cs.getD j 0) (by omega)
        obtain ⟨y2, tn2, ho2⟩ := t2.1.ob
        obtain ⟨h3, t4, t5, t6⟩ := t2.table (s := s - i * cs.getD j 0) (by omega)
        rw [q1.2.2] at t4
        have hvi := q1.2.1
        have hvb := mh_mn_b hp q1.2.2
        have stp : ∀ A B : Prop, A → B → True := fun _ _ _ _ => trivial
        have run : f_X2_oftenByTable_b56 k16 (n + 1) o x2 (nI (s - i * cs.getD j 0)) (nI i) (nI j) (nI (cs.getD j 0)) (nI (s / cs.getD j 0)) h1 = if mh_sz (mh_mn cs (s - i * cs.getD j 0 - cs.getD j 0)) + (1 : Int32) = mh_sz (some (vv - i)) then f_X2_oftenByTable_b56 k16 n o x2 (nI (s - (i + 1) * cs.getD j 0)) (nI (i + 1)) (nI j) (nI (cs.getD j 0)) (nI (s / cs.getD j 0)) h3 else f_X2_oftenByTable_b92 k16 o x2 (nI (s - i * cs.getD j 0)) (nI i) (nI j) h3 := by
          rw [f_X2_oftenByTable_b56, if_neg c1, e0, mh_cal_eq ho, mh_b2_eq t1, mh_cal_eq ho2, mh_b2_eq t4, mh_nm_eq, mh_nm_eq, mh_inc, e1]
        have fr := q3.trans (t3.trans t6)
        have pos : 1 ≤ vv - i := by
          refine Nat.one_le_iff_ne_zero.mpr (fun q => ?_)
          have := mh_mn_pay q1.2.2
          rw [q] at this
          have := mh_pay_max (B := 300) (fun x hx => (hms.1.2 x hx).2) this
          omega
        by_cases hA : mh_Ak cs s (cs.getD j 0) vv (i + 1)
        · left
          refine ⟨(i + 1, h3), ⟨hA, t5, fr⟩, by show vv - (i + 1) < vv - i; omega, ?_⟩
          have h3' := hA.2.2
          rw [e1] at h3'
          rw [run, h3', if_pos (show mh_sz (some (vv - (i + 1))) + (1 : Int32) = mh_sz (some (vv - i)) by show nI (vv - (i + 1)) + (1 : Int32) = nI (vv - i); rw [nI_1]; congr 1; omega)]
        · right
          refine ⟨(i, h3), ⟨q1, mh_Tm_of hv hc q1 hA, t5, fr⟩, ?_⟩
          rw [run, if_neg (fun q => ?_)]
          apply hA
          refine ⟨by rw [Nat.succ_mul]; omega, by omega, ?_⟩
          rw [e1]
          cases hm : mh_mn cs (s - i * cs.getD j 0 - cs.getD j 0) with
          | none =>
            exfalso
            rw [hm] at q
            have q : (-1 : Int32) + 1 = nI (vv - i) := q
            exact nI_ne0 pos (by omega) q.symm
          | some m =>
            have hmb := mh_mn_b hp hm
            rw [hm] at q
            have q : nI m + (1 : Int32) = nI (vv - i) := q
            rw [nI_1, nI_eq (by omega) (by omega)] at q
            congr 1
            omega
      · right
        have e : i = s / cs.getD j 0 := by omega
        have c1 : nI (s / cs.getD j 0) ≤ nI i := (nI_leI (by omega) (by omega)).mpr (by omega)
        refine ⟨(i, h1), ⟨q1, mh_Tm_of hv hc q1 (fun q => ?_), q2, q3⟩, ?_⟩
        · have := (Nat.le_div_iff_mul_le hc1.1).mpr q.1
          omega
        · rw [f_X2_oftenByTable_b56, if_pos c1])
    vv mh_fu (0, h) (by show vv - 0 ≤ vv; omega) ⟨mh_Ak_0 hv, hF, mh_fr.rfl⟩ (by
      have := mh_mn_b hp hv
      exact mh_fuel _ (by omega))
  obtain ⟨q, e1, e2⟩ := key
  refine ⟨q, e1, ?_⟩
  have e2 : f_X2_oftenByTable_b56 k16 mh_fu o x2 (nI (s - 0 * cs.getD j 0)) (nI 0) (nI j) (nI (cs.getD j 0)) (nI (s / cs.getD j 0)) h = _ := e2
  rw [Nat.zero_mul, Nat.sub_zero, nI_0] at e2
  exact e2
theorem mh_fx2_oftenByTable (hF : mh_Fw h o a u t k v cs w) {s i : Nat} (hi : i < cs.length) (hs : s < 90000) (hv : ∃ vv, mh_mn cs s = some vv) :
    ∃ h' n, f_X2_oftenByTable_e o (nI s) (nI i) h = some (nI n, h') ∧ mh_Td cs cs.length s i n ∧ n < 90000 ∧ mh_Fw h' o a u t k v cs w ∧ mh_fr [o, t] h h' := by
  have hms := hF.1.ms
  have hl := hms.1.1
  have key := mh_wh (fun n (q : Nat × Nat × Nat × mh_H) => f_X2_oftenByTable_b16 n o (nI i) (nI q.2.1) (nI q.2.2.1) (nI q.1 - 1) q.2.2.2)
    (fun (q : Nat × mh_H) => some (nI q.1, q.2))
    (fun q => mh_Fw q.2.2.2 o a u t k v cs w ∧ mh_fr [o, t] h q.2.2.2 ∧ ((q.1 = i ∧ mh_Td cs cs.length s i q.2.2.1 ∧ q.2.2.1 < 90000) ∨ (i < q.1 ∧ q.1 ≤ cs.length ∧ q.2.1 < 90000 ∧ mh_Us cs (cs.take q.1) q.2.1 ∧ ∀ n, mh_Td cs q.1 q.2.1 i n → mh_Td cs cs.length s i n))) (fun q => q.1)
    (fun q => mh_Td cs cs.length s i q.1 ∧ q.1 < 90000 ∧ mh_Fw q.2 o a u t k v cs w ∧ mh_fr [o, t] h q.2)
    (fun n q hq => by
      obtain ⟨j, left, tk, h1⟩ := q
      obtain ⟨q1, q2, q3⟩ := hq
      have q1 : mh_Fw h1 o a u t k v cs w := q1
      have q2 : mh_fr [o, t] h h1 := q2
      show (∃ s', _ ∧ _ ∧ f_X2_oftenByTable_b16 (n + 1) o (nI i) (nI left) (nI tk) (nI j - 1) h1 = _) ∨ ∃ r, _ ∧ f_X2_oftenByTable_b16 (n + 1) o (nI i) (nI left) (nI tk) (nI j - 1) h1 = _
      rcases q3 with ⟨e, t1, t2⟩ | ⟨t1, t2, t3, t4, t5⟩
      · right
        have e : j = i := e
        subst e
        refine ⟨(tk, h1), ⟨t1, t2, q1, q2⟩, ?_⟩
        rw [f_X2_oftenByTable_b16, if_pos (mh_pred_lt (by omega))]
        rfl
      · have t1 : i < j := t1
        have t2 : j ≤ cs.length := t2
        have t3 : left < 90000 := t3
        have t4 : mh_Us cs (cs.take j) left := t4
        have t5 : ∀ n, mh_Td cs j left i n → mh_Td cs cs.length s i n := t5
        obtain ⟨j, rfl⟩ : ∃ m, j = m + 1 := ⟨j - 1, by omega⟩
        left
        obtain ⟨fc, hc⟩ := q1.1.co
        obtain ⟨y, tn, ho⟩ := q1.1.ob
        have hcj := hms.1.get (show j < cs.length by omega)
        obtain ⟨vv, hvv⟩ := t4.1
        obtain ⟨⟨tk', h2⟩, ⟨z1, z2, z3, z4⟩, z5⟩ := mh_oftT_in (f_X2_oftenByTable_b16 n) (x2 := nI i) q1 (show j < cs.length by omega) t3 hvv
        have z1 : mh_Ak cs left (cs.getD j 0) vv tk' := z1
        have z2 : mh_Tm cs left (cs.getD j 0) tk' := z2
        have zb : tk' < 90000 := by
          have := z1.2.1
          have := mh_mn_b (fun x hx => (hms.1.2 x hx).1) hvv
          omega
        have sub : ∀ m x, x ∈ cs.take m → x ∈ cs := fun m x hx => List.mem_of_mem_take hx
        have zm := mh_Us_mx (sub (j + 1)) t4 z2
        have c1 : ¬ nI j < nI i := fun q => absurd ((nI_ltI (by omega) (by omega)).mp q) (by omega)
        have c2 : ¬ nI j < 0 := nI_pos (by omega)
        have c3 : ¬ nI (cs.getD j 0) ≤ 0 := nI_nle hcj.1 (by omega)
        have c4 : ¬ nI (cs.getD j 0) = 0 := nI_ne0 hcj.1 (by omega)
        refine ⟨(j, left - tk' * cs.getD j 0, tk', h2), ⟨z3, q2.trans z4, ?_⟩, by show j < j + 1; omega, ?_⟩
        · by_cases hij : i = j
          · left
            exact ⟨hij.symm, t5 tk' ⟨tk', zm, by rw [if_pos hij]⟩, zb⟩
          · right
            refine ⟨by show i < j; omega, by show j ≤ cs.length; omega, by show left - tk' * cs.getD j 0 < 90000; omega, ?_, fun n hn => t5 n ⟨tk', zm, by rw [if_neg hij]; exact hn⟩⟩
            exact mh_Us_next hvv (mh_get_mem (by omega)) t4 z1 z2 (fun x hx hne => mh_take_ne (by omega) hx hne)
        · rw [f_X2_oftenByTable_b16, nI_pred, if_neg c1, if_neg c2, mh_nm_eq, mh_gR_eq (k := 0) ho rfl, Option.bind_some, mh_cal_eq hc.1, mh_b2_eq (mh_fx1_value hc (by omega)), if_neg c3, mh_nz_eq c4]
          unfold f_X2_oftenByTable_b54
          rw [pk_div (by omega) (by omega) (by omega), z5]
          unfold f_X2_oftenByTable_b92
          rw [mh_nm_eq, mh_decN])
    cs.length mh_fu (cs.length, s, 0, h) (by show cs.length ≤ cs.length; omega)
    ⟨hF, mh_fr.rfl, Or.inr ⟨hi, Nat.le_refl _, hs, ⟨hv, fun l hl x hx => by rw [List.take_length]; exact hl.1 x hx⟩, fun n hn => hn⟩⟩ (mh_fuel _ (by omega))
  obtain ⟨⟨n, h'⟩, ⟨e1, e2, e3, e4⟩, e5⟩ := key
  refine ⟨h', n, ?_, e1, e2, e3, e4⟩
  obtain ⟨fc, hc⟩ := hF.1.co
  obtain ⟨y, tn, ho⟩ := hF.1.ob
  unfold f_X2_oftenByTable_e
  rw [mh_nm_eq, mh_gR_eq (k := 0) ho rfl, Option.bind_some, mh_cal_eq hc.1, mh_b2_eq (mh_fx1_count hc), mh_nm_eq]
  have e5 : f_X2_oftenByTable_b16 mh_fu o (nI i) (nI s) (nI 0) (nI cs.length - 1) h = some (nI n, h') := e5
  rw [nI_0] at e5
  exact e5
end MhOftT
