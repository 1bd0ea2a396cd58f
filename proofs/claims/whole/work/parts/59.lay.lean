/-! the paying of a rank -/
def mh_ch (cs : List Nat) (j left : Nat) : Nat → Nat → Nat × Nat
  | 0, r => (0, r)
  | k + 1, r => if r < mh_wy cs j (left - (k + 1) * cs.getD j 0) then (k + 1, r) else mh_ch cs j left k (r - mh_wy cs j (left - (k + 1) * cs.getD j 0))
def mh_ly (cs : List Nat) : Nat → Nat → Nat → List Nat
  | 0, _, _ => []
  | j + 1, left, r => mh_ly cs j (left - (mh_ch cs j left (left / cs.getD j 0) r).1 * cs.getD j 0) (mh_ch cs j left (left / cs.getD j 0) r).2 ++ [(mh_ch cs j left (left / cs.getD j 0) r).1]
theorem mh_ly_len (cs : List Nat) : ∀ j left r, (mh_ly cs j left r).length = j := by
  intro j
  induction j with
  | zero => intro left r; rfl
  | succ j ih => intro left r; rw [mh_ly, List.length_append, ih]; rfl
theorem mh_ch_le (cs : List Nat) (j left : Nat) : ∀ k r, (mh_ch cs j left k r).1 ≤ k ∧ (mh_ch cs j left k r).2 ≤ r := by
  intro k
  induction k with
  | zero => intro r; exact ⟨Nat.le_refl _, Nat.le_refl _⟩
  | succ k ih =>
    intro r
    rw [mh_ch]
    by_cases h : r < mh_wy cs j (left - (k + 1) * cs.getD j 0)
    · rw [if_pos h]; exact ⟨Nat.le_refl _, Nat.le_refl _⟩
    · rw [if_neg h]
      have := ih (r - mh_wy cs j (left - (k + 1) * cs.getD j 0))
      exact ⟨by omega, by omega⟩
theorem mh_Wy.off {h : mh_H} {o a u wv : Nat} {rr : Nat → Nat} {cs : List Nat} (hW : mh_Wy h o a u wv rr cs) {b : Nat} {e : mh_E} (hb : h b = some e) (h1 : ∀ fs, e ≠ .inr (10, fs)) (h2 : ∀ x, e ≠ .inl (1, x)) : b ∉ o :: mh_rw rr := fun q => by
  obtain ⟨fc, g, kp, r1, r2, r3, r4, r5, r6, r7⟩ := hW
  rcases List.mem_cons.mp q with q | q
  · rw [q, r1] at hb
    exact h1 _ (Option.some.inj hb).symm
  · obtain ⟨j, j1, j2⟩ := List.mem_map.mp q
    rw [← j2, r4 j (List.mem_range.mp j1)] at hb
    exact h2 _ (Option.some.inj hb).symm
theorem mh_Wy.pu {h h' : mh_H} {o a u wv : Nat} {rr : Nat → Nat} {cs : List Nat} (hW : mh_Wy h o a u wv rr cs) {op ap vp tp : Nat} {f g : Nat → Int32} {c1 n1 : List Nat} (hp : mh_Pu h op ap vp tp f g c1 n1) (hf : mh_fr (o :: mh_rw rr) h h') : mh_Pu h' op ap vp tp f g c1 n1 :=
  hp.keep (hf _ (hW.off hp.1 (fun _ q => by cases q) (fun _ q => by cases q))) (hf _ (hW.off hp.2.1.1 (fun _ q => by cases q) (fun _ q => by cases q))) (hf _ (hW.off hp.2.1.2.1 (fun _ q => by cases q) (fun _ q => by cases q))) (hf _ (hW.off hp.2.2.1 (fun _ q => by cases q) (fun _ q => by cases q)))
theorem mh_Wy.keep {h h' : mh_H} {o a u wv : Nat} {rr : Nat → Nat} {cs : List Nat} (hW : mh_Wy h o a u wv rr cs) (e0 : h' o = h o) (e1 : h' a = h a) (e2 : h' u = h u) (e3 : h' wv = h wv) (e4 : ∀ j, j < 13 → h' (rr j) = h (rr j)) : mh_Wy h' o a u wv rr cs := by
  obtain ⟨fc, g, kp, r1, r2, r3, r4, r5, r6, r7⟩ := hW
  exact ⟨fc, g, kp, e0.trans r1, r2.keep e1 e2, e3.trans r3, fun j hj => (e4 j hj).trans (r4 j hj), r5, r6, r7⟩
theorem mh_Wy.ms {h : mh_H} {o a u wv : Nat} {rr : Nat → Nat} {cs : List Nat} (hW : mh_Wy h o a u wv rr cs) : mh_ms cs := by obtain ⟨_, _, _, _, _, _, _, ms, _⟩ := hW; exact ms
theorem mh_Wy.co {h : mh_H} {o a u wv : Nat} {rr : Nat → Nat} {cs : List Nat} (hW : mh_Wy h o a u wv rr cs) : ∃ fc, mh_Co h a u fc cs := by obtain ⟨fc, _, _, _, r, _⟩ := hW; exact ⟨fc, r⟩
theorem mh_Wy.ob {h : mh_H} {o a u wv : Nat} {rr : Nat → Nat} {cs : List Nat} (hW : mh_Wy h o a u wv rr cs) : ∃ x, h o = some (.inr (10, [.ref a, .ref wv, .int x])) := by obtain ⟨_, _, _, r, _⟩ := hW; exact ⟨_, r⟩
section MhLay
variable {h : mh_H} {o a u wv op ap vp tp : Nat} {rr : Nat → Nat} {cs : List Nat}
theorem mh_lay_in (k17 : Nat → Nat → Int32 → Int64 → Int32 → mh_H → Option mh_H) (hi : mh_Inj rr 13) (hW : mh_Wy h o a u wv rr cs) {j left r K : Nat} (hj : j < cs.length) (hl : left ≤ 3000) (hr : r < mh_CAP) (hK : K * cs.getD j 0 ≤ left) (hK2 : K ≤ 3000) :
    ∃ h', (mh_Wy h' o a u wv rr cs ∧ mh_fr (o :: mh_rw rr) h h') ∧ f_X10_lay_b49 k17 mh_fu o op (nI left) (lN r) (nI j) (nI (cs.getD j 0)) (nI K) h = f_X10_lay_b99 k17 o op (nI left) (lN (mh_ch cs j left K r).2) (nI j) (nI (cs.getD j 0)) (nI (mh_ch cs j left K r).1) h' := by
  have hcap : mh_CAP = 4000000000000000001 := rfl
  have key := mh_wh (fun n (q : Nat × Nat × mh_H) => f_X10_lay_b49 k17 n o op (nI left) (lN q.2.1) (nI j) (nI (cs.getD j 0)) (nI q.1) q.2.2)
    (fun (h' : mh_H) => f_X10_lay_b99 k17 o op (nI left) (lN (mh_ch cs j left K r).2) (nI j) (nI (cs.getD j 0)) (nI (mh_ch cs j left K r).1) h')
    (fun q => q.1 * cs.getD j 0 ≤ left ∧ q.1 ≤ 3000 ∧ q.2.1 < mh_CAP ∧ mh_ch cs j left q.1 q.2.1 = mh_ch cs j left K r ∧ mh_Wy q.2.2 o a u wv rr cs ∧ mh_fr (o :: mh_rw rr) h q.2.2) (fun q => q.1) (fun h' => mh_Wy h' o a u wv rr cs ∧ mh_fr (o :: mh_rw rr) h h')
    (fun n q hq => by
      obtain ⟨k, r1, h1⟩ := q
      obtain ⟨q1, q6, q2, q3, q4, q5⟩ := hq
      have q1 : k * cs.getD j 0 ≤ left := q1
      have q6 : k ≤ 3000 := q6
      have q2 : r1 < mh_CAP := q2
      have q3 : mh_ch cs j left k r1 = mh_ch cs j left K r := q3
      have q4 : mh_Wy h1 o a u wv rr cs := q4
      have q5 : mh_fr (o :: mh_rw rr) h h1 := q5
      show (∃ s', _ ∧ _ ∧ f_X10_lay_b49 k17 (n + 1) o op (nI left) (lN r1) (nI j) (nI (cs.getD j 0)) (nI k) h1 = _) ∨ ∃ r, _ ∧ f_X10_lay_b49 k17 (n + 1) o op (nI left) (lN r1) (nI j) (nI (cs.getD j 0)) (nI k) h1 = _
      obtain ⟨x, ho⟩ := q4.ob
      cases k with
      | zero =>
        right
        refine ⟨h1, ⟨q4, q5⟩, ?_⟩
        rw [f_X10_lay_b49, if_pos (show nI 0 ≤ 0 by decide), ← q3]
        rfl
      | succ k =>
        have hle := Nat.mul_le_mul_left (k + 1) (q4.ms.1.get hj).1
        obtain ⟨h2, e1, e2, e3⟩ := mh_fx10_countBy hi q4 (j := j) (s := left - (k + 1) * cs.getD j 0) (by omega) (by omega)
        obtain ⟨x2, ho2⟩ := e2.ob
        obtain ⟨h3, e4, e5, e6⟩ := mh_fx10_countBy hi e2 (j := j) (s := left - (k + 1) * cs.getD j 0) (by omega) (by omega)
        have hwl := mh_wy_le cs j (left - (k + 1) * cs.getD j 0)
        have es : nI left - nI (k + 1) * nI (cs.getD j 0) = nI (left - (k + 1) * cs.getD j 0) := by rw [mh_nI_mul, pk_sub q1]
        have c0 : ¬ nI (k + 1) ≤ 0 := nI_nle (by omega) (by omega)
        rw [mh_ch] at q3
        by_cases hc : r1 < mh_wy cs j (left - (k + 1) * cs.getD j 0)
        · right
          rw [if_pos hc] at q3
          refine ⟨h2, ⟨e2, q5.trans e3⟩, ?_⟩
          rw [f_X10_lay_b49, if_neg c0, es, mh_cal_eq ho, mh_b2_eq e1, if_pos ((mh_cltN (by omega) (by omega)).mpr hc), ← q3]
        · left
          rw [if_neg hc] at q3
          have hk1 : (k + 1) * cs.getD j 0 = k * cs.getD j 0 + cs.getD j 0 := Nat.succ_mul _ _
          refine ⟨(k, r1 - mh_wy cs j (left - (k + 1) * cs.getD j 0), h3), ⟨by show k * cs.getD j 0 ≤ left; omega, by show k ≤ 3000; omega, by show r1 - mh_wy cs j (left - (k + 1) * cs.getD j 0) < mh_CAP; omega, q3, e5, q5.trans (e3.trans e6)⟩, by show k < k + 1; omega, ?_⟩
          rw [f_X10_lay_b49, if_neg c0, es, mh_cal_eq ho, mh_b2_eq e1, if_neg (fun q => hc ((mh_cltN (by omega) (by omega)).mp q)), mh_cal_eq ho2, mh_b2_eq e4, mh_nm_eq, mh_nm_eq, lN_sub (by omega), mh_dec])
    3000 mh_fu (K, r, h) hK2 ⟨hK, hK2, hr, rfl, hW, mh_fr.rfl⟩ (mh_fuel _ (by omega))
  exact key
theorem mh_fx10_lay (hi : mh_Inj rr 13) (hW : mh_Wy h o a u wv rr cs) {f g : Nat → Int32} {ns : List Nat} (hp : mh_Pu h op ap vp tp f g cs ns) (hvt : vp ≠ tp) (hat : u ≠ tp) {s r : Nat} (hs : s ≤ 3000) (hr : r < mh_CAP) :
    ∃ h' f' g', f_X10_lay_e o (nI s) (lN r) op h = some h' ∧ mh_Wy h' o a u wv rr cs ∧ mh_Pu h' op ap vp tp f' g' cs (mh_ly cs cs.length s r) ∧ mh_fr (tp :: o :: mh_rw rr) h h' := by
  have hl := hW.ms.1.1
  have key := mh_wh (fun n (q : Nat × Nat × Nat × mh_H) => f_X10_lay_b17 n o op (nI q.2.1) (lN q.2.2.1) (nI q.1 - 1) q.2.2.2)
    (fun (h' : mh_H) => some h')
    (fun q => q.1 ≤ cs.length ∧ q.2.1 ≤ 3000 ∧ q.2.2.1 < mh_CAP ∧ mh_Wy q.2.2.2 o a u wv rr cs ∧ (∃ f' g' ns', mh_Pu q.2.2.2 op ap vp tp f' g' cs ns' ∧ mh_ly cs cs.length s r = mh_ly cs q.1 q.2.1 q.2.2.1 ++ ns'.drop q.1) ∧ mh_fr (tp :: o :: mh_rw rr) h q.2.2.2) (fun q => q.1)
    (fun h' => mh_Wy h' o a u wv rr cs ∧ (∃ f' g', mh_Pu h' op ap vp tp f' g' cs (mh_ly cs cs.length s r)) ∧ mh_fr (tp :: o :: mh_rw rr) h h')
    (fun n q hq => by
      obtain ⟨j, left, r1, h1⟩ := q
      obtain ⟨q1, q2, q3, q4, ⟨f1, g1, n1, q5, q6⟩, q7⟩ := hq
      have q1 : j ≤ cs.length := q1
      have q2 : left ≤ 3000 := q2
      have q3 : r1 < mh_CAP := q3
      have q4 : mh_Wy h1 o a u wv rr cs := q4
      have q5 : mh_Pu h1 op ap vp tp f1 g1 cs n1 := q5
      have q6 : mh_ly cs cs.length s r = mh_ly cs j left r1 ++ n1.drop j := q6
      have q7 : mh_fr (tp :: o :: mh_rw rr) h h1 := q7
      show (∃ s', _ ∧ _ ∧ f_X10_lay_b17 (n + 1) o op (nI left) (lN r1) (nI j - 1) h1 = _) ∨ ∃ r, _ ∧ f_X10_lay_b17 (n + 1) o op (nI left) (lN r1) (nI j - 1) h1 = _
      cases j with
      | zero =>
        right
        rw [mh_ly, List.drop_zero, List.nil_append] at q6
        refine ⟨h1, ⟨q4, ⟨f1, g1, by rw [q6]; exact q5⟩, q7⟩, ?_⟩
        rw [f_X10_lay_b17, if_pos (show nI 0 - 1 < 0 by decide)]
        rfl
      | succ j =>
        left
        have hcj := q4.ms.1.get (show j < cs.length by omega)
        obtain ⟨x, ho⟩ := q4.ob
        obtain ⟨fc, hc⟩ := q4.co
        have hdl := Nat.div_mul_le_self left (cs.getD j 0)
        have hd2 := Nat.div_le_self left (cs.getD j 0)
        obtain ⟨h2, ⟨e1, e2⟩, e3⟩ := mh_lay_in (op := op) (f_X10_lay_b17 n) hi q4 (j := j) (left := left) (r := r1) (K := left / cs.getD j 0) (by omega) q2 q3 hdl (by omega)
        have hp2 := q4.pu q5 e2
        have nt : ∀ i, i < 13 → rr i ≠ tp := fun i hi => by
          obtain ⟨_, _, _, _, _, _, r4, _⟩ := e1
          exact mh_apt (r4 i hi) hp2.2.2.1 (fun q => by cases q)
        have hch := mh_ch_le cs j left (left / cs.getD j 0) r1
        obtain ⟨z1, z2⟩ := mh_fx7_set hp2 (mh_apt hp2.1 hp2.2.2.1 (fun q => by cases q)) (mh_apt hp2.2.1.1 hp2.2.2.1 (fun q => by cases q)) hvt (show j < cs.length by omega) (mh_ch cs j left (left / cs.getD j 0) r1).1
        have hw3 : mh_Wy (mh_up h2 tp (.inl (0, 12, .inl (upd g1 j (nI (mh_ch cs j left (left / cs.getD j 0) r1).1))))) o a u wv rr cs := by
          obtain ⟨fc', gg, kp, r1', r2', r3', r4', _⟩ := id e1
          exact e1.keep (mh_up_ne (mh_apt r1' hp2.2.2.1 (fun q => by cases q))) (mh_up_ne (mh_apt r2'.1 hp2.2.2.1 (fun q => by cases q))) (mh_up_ne hat) (mh_up_ne (mh_apt r3' hp2.2.2.1 (fun q => by cases q))) (fun i hi => mh_up_ne (nt i hi))
        have hlen : n1.length = cs.length := q5.2.2.2.1
        refine ⟨(j, left - (mh_ch cs j left (left / cs.getD j 0) r1).1 * cs.getD j 0, (mh_ch cs j left (left / cs.getD j 0) r1).2, mh_up h2 tp (.inl (0, 12, .inl (upd g1 j (nI (mh_ch cs j left (left / cs.getD j 0) r1).1))))), ⟨by show j ≤ cs.length; omega, by show left - _ ≤ 3000; omega, by show (mh_ch cs j left (left / cs.getD j 0) r1).2 < mh_CAP; omega, hw3, ⟨f1, _, _, z2, ?_⟩, q7.trans ((e2.sub (fun x hx => List.mem_cons_of_mem _ hx)).trans (mh_fr.up List.mem_cons_self))⟩, by show j < j + 1; omega, ?_⟩
        · show mh_ly cs cs.length s r = mh_ly cs j (left - (mh_ch cs j left (left / cs.getD j 0) r1).1 * cs.getD j 0) (mh_ch cs j left (left / cs.getD j 0) r1).2 ++ (n1.set j (mh_ch cs j left (left / cs.getD j 0) r1).1).drop j
          rw [q6, mh_ly, List.append_assoc]
          have e8 : ∀ K, (n1.set j K).drop j = K :: n1.drop (j + 1) := fun K => by
            rw [List.drop_eq_getElem_cons (by rw [List.length_set]; omega), List.getElem_set_self, List.drop_set_of_lt (by omega)]
          rw [e8]
          rfl
        · have c1 : ¬ nI j < 0 := nI_pos (by omega)
          have c2 : ¬ nI (cs.getD j 0) ≤ 0 := nI_nle hcj.1 (by omega)
          rw [f_X10_lay_b17, nI_pred, if_neg c1, mh_gR_eq (k := 0) ho rfl, Option.bind_some, mh_cal_eq hc.1, mh_b2_eq (mh_fx1_value hc (by omega)), if_neg c2, mh_nz_eq (nI_ne0 hcj.1 (by omega)), pk_div (by omega) (by omega) (by omega)]
          unfold f_X10_lay_b47
          rw [e3]
          unfold f_X10_lay_b99
          have hmul : (mh_ch cs j left (left / cs.getD j 0) r1).1 * cs.getD j 0 ≤ left := Nat.le_trans (Nat.mul_le_mul_right _ hch.1) hdl
          rw [mh_cal_eq hp2.1, z1, Option.bind_some, mh_nm_eq, mh_nm_eq, mh_nI_mul, pk_sub hmul, mh_decN])
    cs.length mh_fu (cs.length, s, r, h) (Nat.le_refl _) ⟨Nat.le_refl _, hs, hr, hW, ⟨f, g, ns, hp, by rw [List.drop_eq_nil_of_le (by have : ns.length = cs.length := hp.2.2.2.1; omega), List.append_nil]⟩, mh_fr.rfl⟩ (mh_fuel _ (by omega))
  obtain ⟨h', ⟨z1, ⟨f', g', z2⟩, z3⟩, z4⟩ := key
  refine ⟨h', f', g', ?_, z1, z2, z3⟩
  obtain ⟨x, ho⟩ := hW.ob
  obtain ⟨fc, hc⟩ := hW.co
  unfold f_X10_lay_e
  rw [mh_gR_eq (k := 0) ho rfl, Option.bind_some, mh_cal_eq hc.1, mh_b2_eq (mh_fx1_count hc), mh_nm_eq]
  exact z4
/-! the rank of a paying -/
def mh_rs (cs : List Nat) (j left n K : Nat) : Nat := mh_sumr (fun i => mh_wy cs j (left - (K - i) * cs.getD j 0)) (K - n)
def mh_rk (cs ns : List Nat) : Nat → Nat → Nat
  | 0, _ => 0
  | j + 1, left => mh_rs cs j left (ns.getD j 0) (left / cs.getD j 0) + mh_rk cs ns j (left - ns.getD j 0 * cs.getD j 0)
theorem mh_rank_in (k18 : Nat → Nat → Int32 → Int64 → Int32 → mh_H → Option (Int64 × mh_H)) (hi : mh_Inj rr 13) (hW : mh_Wy h o a u wv rr cs) {f g : Nat → Int32} {ns : List Nat} (hp : mh_Pu h op ap vp tp f g cs ns) (hn : ∀ i, ns.getD i 0 ≤ 3000) {j left r : Nat} (hj : j < cs.length) (hl : left ≤ 3000) :
    ∃ h', (mh_Wy h' o a u wv rr cs ∧ mh_fr (o :: mh_rw rr) h h') ∧ f_X10_rankOf_b53 k18 mh_fu o op (nI left) (lN r) (nI j) (nI (cs.getD j 0)) (nI (left / cs.getD j 0)) h = f_X10_rankOf_b86 k18 o op (nI left) (lN (r + mh_rs cs j left (ns.getD j 0) (left / cs.getD j 0))) (nI j) (nI (cs.getD j 0)) h' := by
  have hcj := hW.ms.1.get hj
  have hdl := Nat.div_mul_le_self left (cs.getD j 0)
  have hd2 := Nat.div_le_self left (cs.getD j 0)
  have hnj := hn j
  have key := mh_wh (fun n (q : Nat × mh_H) => f_X10_rankOf_b53 k18 n o op (nI left) (lN (r + mh_sumr (fun i => mh_wy cs j (left - (left / cs.getD j 0 - i) * cs.getD j 0)) q.1)) (nI j) (nI (cs.getD j 0)) (nI (left / cs.getD j 0 - q.1)) q.2)
    (fun (h' : mh_H) => f_X10_rankOf_b86 k18 o op (nI left) (lN (r + mh_rs cs j left (ns.getD j 0) (left / cs.getD j 0))) (nI j) (nI (cs.getD j 0)) h')
    (fun q => q.1 ≤ left / cs.getD j 0 - ns.getD j 0 ∧ mh_Wy q.2 o a u wv rr cs ∧ mh_Pu q.2 op ap vp tp f g cs ns ∧ mh_fr (o :: mh_rw rr) h q.2) (fun q => left / cs.getD j 0 - ns.getD j 0 - q.1) (fun h' => mh_Wy h' o a u wv rr cs ∧ mh_fr (o :: mh_rw rr) h h')
    (fun n q hq => by
      obtain ⟨i, h1⟩ := q
      obtain ⟨q1, q2, q3, q4⟩ := hq
      have q1 : i ≤ left / cs.getD j 0 - ns.getD j 0 := q1
      have q2 : mh_Wy h1 o a u wv rr cs := q2
      have q3 : mh_Pu h1 op ap vp tp f g cs ns := q3
      have q4 : mh_fr (o :: mh_rw rr) h h1 := q4
      show (∃ s', _ ∧ _ ∧ f_X10_rankOf_b53 k18 (n + 1) o op (nI left) (lN (r + mh_sumr (fun i => mh_wy cs j (left - (left / cs.getD j 0 - i) * cs.getD j 0)) i)) (nI j) (nI (cs.getD j 0)) (nI (left / cs.getD j 0 - i)) h1 = _) ∨ ∃ r', _ ∧ f_X10_rankOf_b53 k18 (n + 1) o op (nI left) (lN (r + mh_sumr (fun i => mh_wy cs j (left - (left / cs.getD j 0 - i) * cs.getD j 0)) i)) (nI j) (nI (cs.getD j 0)) (nI (left / cs.getD j 0 - i)) h1 = _
      obtain ⟨x, ho⟩ := q2.ob
      have hof := mh_fx7_often q3 (i := j) (by have := hW.ms.1.1; omega)
      by_cases hc : left / cs.getD j 0 - i ≤ ns.getD j 0
      · right
        refine ⟨h1, ⟨q2, q4⟩, ?_⟩
        rw [f_X10_rankOf_b53, mh_cal_eq q3.1, mh_b2_eq hof, if_pos ((nI_leI (by omega) (by omega)).mpr hc)]
        have e : i = left / cs.getD j 0 - ns.getD j 0 := by omega
        rw [e]
        rfl
      · left
        have hle : (left / cs.getD j 0 - i) * cs.getD j 0 ≤ left := Nat.le_trans (Nat.mul_le_mul_right _ (Nat.sub_le _ _)) hdl
        obtain ⟨h2, e1, e2, e3⟩ := mh_fx10_countBy hi q2 (j := j) (s := left - (left / cs.getD j 0 - i) * cs.getD j 0) (by omega) (by omega)
        refine ⟨(i + 1, h2), ⟨by show i + 1 ≤ left / cs.getD j 0 - ns.getD j 0; omega, e2, q2.pu q3 e3, q4.trans e3⟩, by show left / cs.getD j 0 - ns.getD j 0 - (i + 1) < left / cs.getD j 0 - ns.getD j 0 - i; omega, ?_⟩
        rw [f_X10_rankOf_b53, mh_cal_eq q3.1, mh_b2_eq hof, if_neg (fun q => hc ((nI_leI (by omega) (by omega)).mp q)), mh_nI_mul, pk_sub hle, mh_cal_eq ho, mh_b2_eq e1, mh_nm_eq, mh_nm_eq, lN_add]
        show _ = f_X10_rankOf_b53 k18 n o op (nI left) (lN (r + mh_sumr (fun i => mh_wy cs j (left - (left / cs.getD j 0 - i) * cs.getD j 0)) (i + 1))) (nI j) (nI (cs.getD j 0)) (nI (left / cs.getD j 0 - (i + 1))) h2
        rw [mh_sumr, Nat.add_assoc, show left / cs.getD j 0 - i = (left / cs.getD j 0 - (i + 1)) + 1 by omega, mh_dec])
    3000 mh_fu (0, h) (by show left / cs.getD j 0 - ns.getD j 0 - 0 ≤ 3000; omega) ⟨Nat.zero_le _, hW, hp, mh_fr.rfl⟩ (mh_fuel _ (by omega))
  exact key
theorem mh_fx10_rankOf (hi : mh_Inj rr 13) (hW : mh_Wy h o a u wv rr cs) {f g : Nat → Int32} {ns : List Nat} (hp : mh_Pu h op ap vp tp f g cs ns) (hn : ∀ i, ns.getD i 0 ≤ 3000) (hs : mh_dot cs ns ≤ 3000) :
    ∃ h', f_X10_rankOf_e o op h = some (lN (mh_rk cs ns cs.length (mh_dot cs ns)), h') ∧ mh_Wy h' o a u wv rr cs ∧ mh_fr (o :: mh_rw rr) h h' := by
  have hl := hW.ms.1.1
  have key := mh_wh (fun n (q : Nat × Nat × Nat × mh_H) => f_X10_rankOf_b18 n o op (nI q.2.1) (lN q.2.2.1) (nI q.1 - 1) q.2.2.2)
    (fun (h' : mh_H) => some (lN (mh_rk cs ns cs.length (mh_dot cs ns)), h'))
    (fun q => q.1 ≤ cs.length ∧ q.2.1 = mh_dot (cs.take q.1) (ns.take q.1) ∧ q.2.1 ≤ 3000 ∧ q.2.2.1 + mh_rk cs ns q.1 q.2.1 = mh_rk cs ns cs.length (mh_dot cs ns) ∧ mh_Wy q.2.2.2 o a u wv rr cs ∧ mh_Pu q.2.2.2 op ap vp tp f g cs ns ∧ mh_fr (o :: mh_rw rr) h q.2.2.2) (fun q => q.1)
    (fun h' => mh_Wy h' o a u wv rr cs ∧ mh_fr (o :: mh_rw rr) h h')
    (fun n q hq => by
      obtain ⟨j, left, r1, h1⟩ := q
      obtain ⟨q1, q2, q3, q4, q5, q6, q7⟩ := hq
      have q1 : j ≤ cs.length := q1
      have q2 : left = mh_dot (cs.take j) (ns.take j) := q2
      have q3 : left ≤ 3000 := q3
      have q4 : r1 + mh_rk cs ns j left = mh_rk cs ns cs.length (mh_dot cs ns) := q4
      have q5 : mh_Wy h1 o a u wv rr cs := q5
      have q6 : mh_Pu h1 op ap vp tp f g cs ns := q6
      have q7 : mh_fr (o :: mh_rw rr) h h1 := q7
      show (∃ s', _ ∧ _ ∧ f_X10_rankOf_b18 (n + 1) o op (nI left) (lN r1) (nI j - 1) h1 = _) ∨ ∃ r, _ ∧ f_X10_rankOf_b18 (n + 1) o op (nI left) (lN r1) (nI j - 1) h1 = _
      cases j with
      | zero =>
        right
        refine ⟨h1, ⟨q5, q7⟩, ?_⟩
        rw [f_X10_rankOf_b18, if_pos (show nI 0 - 1 < 0 by decide), ← q4]
        rfl
      | succ j =>
        left
        have hcj := q5.ms.1.get (show j < cs.length by omega)
        obtain ⟨x, ho⟩ := q5.ob
        obtain ⟨fc, hc⟩ := q5.co
        have hlen : ns.length = cs.length := q6.2.2.2.1
        obtain ⟨h2, ⟨e1, e2⟩, e3⟩ := mh_rank_in (f_X10_rankOf_b18 n) hi q5 q6 hn (j := j) (left := left) (r := r1) (by omega) q3
        have hp2 := q5.pu q6 e2
        have dotapp : ∀ (a1 b1 : List Nat) (x y : Nat), a1.length = b1.length → mh_dot (a1 ++ [x]) (b1 ++ [y]) = mh_dot a1 b1 + x * y := by
          intro a1
          induction a1 with
          | nil =>
            intro b1 x y hb
            cases b1 with
            | nil => simp [mh_dot, Nat.mul_comm]
            | cons b bs => cases hb
          | cons c a1 ih =>
            intro b1 x y hb
            cases b1 with
            | nil => cases hb
            | cons b bs =>
              have := ih bs x y (by simpa using hb)
              simp only [List.cons_append, mh_dot, this]
              omega
        have hd : left = mh_dot (cs.take j) (ns.take j) + cs.getD j 0 * ns.getD j 0 := by
          rw [q2, mh_take_s (show j < cs.length by omega), mh_take_s (show j < ns.length by omega), dotapp _ _ _ _ (by rw [List.length_take, List.length_take]; omega)]
        have hmul := Nat.mul_comm (cs.getD j 0) (ns.getD j 0)
        refine ⟨(j, left - ns.getD j 0 * cs.getD j 0, r1 + mh_rs cs j left (ns.getD j 0) (left / cs.getD j 0), h2), ⟨by show j ≤ cs.length; omega, by show left - ns.getD j 0 * cs.getD j 0 = mh_dot (cs.take j) (ns.take j); omega, by show left - ns.getD j 0 * cs.getD j 0 ≤ 3000; omega, ?_, e1, hp2, q7.trans e2⟩, by show j < j + 1; omega, ?_⟩
        · show r1 + mh_rs cs j left (ns.getD j 0) (left / cs.getD j 0) + mh_rk cs ns j (left - ns.getD j 0 * cs.getD j 0) = _
          rw [← q4, mh_rk]
          omega
        · have c1 : ¬ nI j < 0 := nI_pos (by omega)
          have c2 : ¬ nI (cs.getD j 0) ≤ 0 := nI_nle hcj.1 (by omega)
          rw [f_X10_rankOf_b18, nI_pred, if_neg c1, mh_gR_eq (k := 0) ho rfl, Option.bind_some, mh_cal_eq hc.1, mh_b2_eq (mh_fx1_value hc (by omega)), if_neg c2, mh_nz_eq (nI_ne0 hcj.1 (by omega)), pk_div (by omega) (by omega) (by omega)]
          unfold f_X10_rankOf_b47
          rw [e3]
          unfold f_X10_rankOf_b86
          rw [mh_cal_eq hp2.1, mh_b2_eq (mh_fx7_often hp2 (by omega)), mh_nm_eq, mh_nm_eq, mh_nI_mul, pk_sub (by omega), mh_decN])
    cs.length mh_fu (cs.length, mh_dot cs ns, 0, h) (Nat.le_refl _) ⟨Nat.le_refl _, by have : ns.length = cs.length := hp.2.2.2.1; show mh_dot cs ns = mh_dot (cs.take cs.length) (ns.take cs.length); rw [List.take_length, ← this, List.take_length], hs, Nat.zero_add _, hW, hp, mh_fr.rfl⟩ (mh_fuel _ (by omega))
  obtain ⟨h', ⟨z1, z2⟩, z4⟩ := key
  refine ⟨h', ?_, z1, z2⟩
  obtain ⟨x, ho⟩ := hW.ob
  obtain ⟨fc, hc⟩ := hW.co
  unfold f_X10_rankOf_e
  rw [mh_cal_eq hp.1, mh_b2_eq (mh_fx7_total hp), mh_nm_eq, mh_gR_eq (k := 0) ho rfl, Option.bind_some, mh_cal_eq hc.1, mh_b2_eq (mh_fx1_count hc), mh_nm_eq]
  exact z4
end MhLay
