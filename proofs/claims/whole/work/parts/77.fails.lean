/-! failures of the greatest first -/
theorem mh_gf_app (cs : List Nat) (c : Nat) : ∀ (i s k : Nat), i ≤ cs.length → mh_gf (cs ++ [c]) i s k = mh_gf cs i s k := by
  intro i
  induction i with
  | zero => intro s k _; rfl
  | succ i ih =>
    intro s k h
    have e : (cs ++ [c]).getD i 0 = cs.getD i 0 := by rw [mh_getD_app, if_pos (by omega)]
    rw [mh_gf, mh_gf, e, ih _ _ (by omega)]
theorem mh_gf_add (cs : List Nat) : ∀ (i s k m : Nat), mh_gf cs i s (k + m) = ((mh_gf cs i s k).1, (mh_gf cs i s k).2 + m) := by
  intro i
  induction i with
  | zero => intro s k m; rfl
  | succ i ih =>
    intro s k m
    rw [mh_gf, mh_gf, show k + m + s / cs.getD i 0 = (k + s / cs.getD i 0) + m by omega, ih]
/-- greedy pays s with n coins -/
def mh_gp2 (cs : List Nat) (s n : Nat) : Prop := mh_gf cs cs.length s 0 = (0, n)
theorem mh_gf_pay (cs : List Nat) (hp : ∀ i, i < cs.length → 1 ≤ cs.getD i 0) : ∀ (i s k : Nat), i ≤ cs.length → ∃ t n, mh_pay (cs.take i) t n ∧ s = t + (mh_gf cs i s k).1 ∧ (mh_gf cs i s k).2 = k + n := by
  intro i
  induction i with
  | zero => intro s k _; exact ⟨0, 0, mh_pay0 _, by rw [mh_gf]; omega, rfl⟩
  | succ i ih =>
    intro s k hi
    rw [mh_gf]
    obtain ⟨t, n, h1, h2, h3⟩ := ih (s % cs.getD i 0) (k + s / cs.getD i 0) (by omega)
    have hm : cs.getD i 0 ∈ cs.take (i + 1) := by rw [mh_take_s (by omega)]; exact List.mem_append_right _ (List.mem_singleton.mpr rfl)
    have h4 := mh_pay_rep hm (mh_pay_sub h1 (fun x hx => by rw [mh_take_s (by omega)]; exact List.mem_append_left _ hx)) (s / cs.getD i 0)
    have hd := Nat.div_add_mod s (cs.getD i 0)
    have hc := Nat.mul_comm (cs.getD i 0) (s / cs.getD i 0)
    exact ⟨_, _, h4, by omega, by omega⟩
theorem mh_gp2_pay {cs : List Nat} (hms : mh_ms cs) {s n : Nat} (h : mh_gp2 cs s n) : mh_pay cs s n := by
  obtain ⟨t, m, h1, h2, h3⟩ := mh_gf_pay cs (fun i hi => (hms.1.get hi).1) cs.length s 0 (Nat.le_refl _)
  rw [h] at h2 h3
  have h2 : s = t + 0 := h2
  have h3 : n = 0 + m := h3
  rw [List.take_length] at h1
  rw [h2, h3, Nat.add_zero, Nat.zero_add]
  exact h1
/-- the greatest first: one of it more -/
theorem mh_gp2_top {cs : List Nat} (hms : mh_ms cs) (hne : cs ≠ []) {s n : Nat} : mh_gp2 cs (s + mh_tp cs) (n + 1) ↔ mh_gp2 cs s n := by
  have hl := List.length_pos_iff.mpr hne
  have gp : 1 ≤ mh_tp cs := (hms.1.get (show cs.length - 1 < cs.length by omega)).1
  unfold mh_gp2
  obtain ⟨d, hd⟩ : ∃ d, cs.length = d + 1 := ⟨cs.length - 1, by omega⟩
  have e : cs.getD d 0 = mh_tp cs := by unfold mh_tp; rw [hd]; rfl
  rw [hd, mh_gf, mh_gf, e, Nat.add_mod_right, Nat.add_div_right _ gp, Nat.zero_add, Nat.zero_add, mh_gf_add]
  constructor
  · intro q
    have q1 := congrArg Prod.fst q
    have q2 := congrArg Prod.snd q
    have q1 : (mh_gf cs d (s % mh_tp cs) (s / mh_tp cs)).1 = 0 := q1
    have q2 : (mh_gf cs d (s % mh_tp cs) (s / mh_tp cs)).2 + 1 = n + 1 := q2
    exact Prod.ext q1 (by show _ = n; omega)
  · intro q
    rw [q]
def mh_fl (cs : List Nat) (s : Nat) : Prop := ∃ n, mh_mn cs s = some n ∧ ¬ mh_gp2 cs s n
theorem mh_gy_iff {cs : List Nat} (hms : mh_ms cs) {s n : Nat} (hs : s < 2 ^ 62) (hn : n < 2 ^ 62) : mh_gy cs s = lN n ↔ mh_gp2 cs s n := by
  unfold mh_gy mh_gp2
  have hle := mh_gf_le cs (fun i hi => (hms.1.get hi).1) cs.length s 0 (Nat.le_refl _)
  by_cases h0 : (mh_gf cs cs.length s 0).1 = 0
  · rw [if_pos h0, mh_lN_inj (by omega) (by omega)]
    exact ⟨fun q => Prod.ext h0 q, fun q => by rw [q]⟩
  · rw [if_neg h0]
    exact ⟨fun q => absurd q.symm (mh_lN_m1 (by omega)), fun q => absurd (by rw [q]) h0⟩
/-- the least failure lies below the two greatest -/
theorem mh_fl_bound {cs : List Nat} (hms : mh_ms cs) (hne : cs ≠ []) {s : Nat} (hs : mh_fl cs s) (hl : ∀ t, t < s → ¬ mh_fl cs t) : s < mh_tp cs + cs.dropLast.getD (cs.dropLast.length - 1) 0 := by
  obtain ⟨g1, g2, g3, g4⟩ := mh_tp_ok hms hne
  have gp := (g1.2 _ g1.1).1
  obtain ⟨n, h1, h2⟩ := hs
  refine Nat.lt_of_not_le (fun hc => ?_)
  -- an optimal paying with the greatest
  have top : ∀ l : List Nat, (∀ x, x ∈ l → x ∈ cs) → l.sum = s → l.length = n → mh_tp cs ∉ l := fun l p1 p2 p3 hg => by
    obtain ⟨q1, q2, q3⟩ := mh_er p1 p2 p3 hg
    obtain ⟨m, hm⟩ := mh_mn_ex ⟨_, q3⟩
    have hmle := mh_mn_le hm q3
    have hup := mh_pay_c g1.1 (mh_mn_pay hm)
    rw [Nat.sub_add_cancel q1] at hup
    have := mh_mn_le h1 hup
    have e : m = n - 1 := by omega
    have nf : mh_gp2 cs (s - mh_tp cs) m := Classical.byContradiction (fun q => hl (s - mh_tp cs) (by omega) ⟨m, hm, q⟩)
    have := (mh_gp2_top hms hne).mpr nf
    rw [Nat.sub_add_cancel q1, e, show n - 1 + 1 = n by omega] at this
    exact h2 this
  obtain ⟨l, p1, p2, p3⟩ := mh_mn_pay h1
  have hnt := top l p1 p2 p3
  have hs0 : s ≠ 0 := fun q => by omega
  cases l with
  | nil => exact hs0 (by rw [← p2]; rfl)
  | cons x l =>
    have hx : x ∈ cs.dropLast := (g4 x (p1 x List.mem_cons_self)).resolve_left (fun q => hnt (by rw [← q]; exact List.mem_cons_self))
    have hxd : x ≤ cs.dropLast.getD (cs.dropLast.length - 1) 0 := by
      obtain ⟨j, j1, j2⟩ := mh_mem_get hx
      have hmd := mh_ms_sub hms (List.dropLast_sublist cs)
      by_cases hj : j = cs.dropLast.length - 1
      · rw [← j2, hj]; exact Nat.le_refl _
      · rw [← j2]; exact Nat.le_of_lt (mh_pw_ne hmd.2 (by omega) (by omega))
    obtain ⟨q1, q2, q3⟩ := mh_er p1 p2 p3 (c := x) List.mem_cons_self
    obtain ⟨m, hm⟩ := mh_mn_ex ⟨_, q3⟩
    have hmle := mh_mn_le hm q3
    have hup := mh_pay_c (p1 x List.mem_cons_self) (mh_mn_pay hm)
    rw [Nat.sub_add_cancel q1] at hup
    have := mh_mn_le h1 hup
    have e : m = n - 1 := by omega
    have hx1 := (g3 x hx).2.1
    have nf : mh_gp2 cs (s - x) m := Classical.byContradiction (fun q => hl (s - x) (by omega) ⟨m, hm, q⟩)
    have hge : mh_tp cs ≤ s - x := by omega
    -- greedy's paying of s - x has the greatest
    have hm1 : m ≠ 0 := fun q => by
      rw [q] at nf
      have := mh_pay_max (B := 300) (fun y hy => (hms.1.2 y hy).2) (mh_gp2_pay hms nf)
      omega
    have nf2 : mh_gp2 cs (s - x - mh_tp cs) (m - 1) := (mh_gp2_top hms hne).mp (by rw [Nat.sub_add_cancel hge, show m - 1 + 1 = m by omega]; exact nf)
    obtain ⟨r, r1, r2, r3⟩ := mh_gp2_pay hms nf2
    refine top (mh_tp cs :: x :: r) (fun y hy => ?_) ?_ ?_ List.mem_cons_self
    · rcases List.mem_cons.mp hy with q | q
      · rw [q]; exact g1.1
      · rcases List.mem_cons.mp q with q | q
        · rw [q]; exact (g3 x hx).1
        · exact r1 y q
    · rw [List.sum_cons, List.sum_cons, r2]; omega
    · rw [List.length_cons, List.length_cons, r3]; omega
def mh_Blf (cs : List Nat) (r : Int32) : Prop := (∃ s, s < 1000 ∧ mh_fl cs s ∧ (∀ t, t < s → ¬ mh_fl cs t) ∧ r = nI s) ∨ ((∀ s, ¬ mh_fl cs s) ∧ r = -1)
theorem mh_Blf_u {cs : List Nat} {r r' : Int32} (h : mh_Blf cs r) (k : mh_Blf cs r') : r = r' := by
  rcases h with ⟨s, _, h1, h2, h3⟩ | ⟨h1, h3⟩
  · rcases k with ⟨t, _, k1, k2, k3⟩ | ⟨k1, _⟩
    · rcases Nat.lt_trichotomy s t with q | q | q
      · exact absurd h1 (k2 s q)
      · rw [h3, k3, q]
      · exact absurd k1 (h2 t q)
    · exact absurd h1 (k1 s)
  · rcases k with ⟨t, _, k1, k2, k3⟩ | ⟨k1, k3⟩
    · exact absurd k1 (h1 t)
    · rw [h3, k3]
section MhFails
variable {h : mh_H} {ad : Nat → Nat} {σ : mh_Sg}
theorem mh_x_leastFailure (hC : mh_CI h ad σ) {p : Nat} (hp : p < 8) : ∃ r h', f_X11_leastFailure_e (ad 1289) (ad (6 * (σ.1.1 * 8 + p))) h = some (r, h') ∧ mh_Blf (σ.2.1.1 (σ.1.1 * 8 + p)) r ∧ mh_CI h' ad σ ∧ mh_frC ad h h' := by
  have hms := mh_x_ms hC hp
  have hl := hms.1.1
  obtain ⟨h1, t1, t2, t3, t4⟩ := mh_x_take hC hp
  obtain ⟨f, hc⟩ := mh_x_mint t3 hp
  obtain ⟨c0, hF0⟩ := hC.fewest
  obtain ⟨y0, tn0, o0⟩ := hF0.ob
  unfold f_X11_leastFailure_e
  rw [mh_gR_eq (k := 1) hC.ob rfl, Option.bind_some, mh_cal_eq o0, t1, Option.bind_some, mh_cal_eq hc.1, mh_b2_eq (mh_fx1_greatest hc), mh_cal_eq hc.1, mh_b2_eq (mh_fx1_count hc), mh_cal_eq hc.1]
  generalize hcs : σ.2.1.1 (σ.1.1 * 8 + p) = cs at *
  -- the second greatest
  have hv : f_X1_value_e (ad (6 * (σ.1.1 * 8 + p))) (nI cs.length - (2 : Int32)) h1 = some (nI (cs.dropLast.getD (cs.dropLast.length - 1) 0), h1) := by
    by_cases h2 : 2 ≤ cs.length
    · have e : nI cs.length - (2 : Int32) = nI (cs.length - 2) := pk_sub (b := 2) h2
      rw [e, mh_fx1_value hc (by omega)]
      have : cs.dropLast.getD (cs.dropLast.length - 1) 0 = cs.getD (cs.length - 2) 0 := by
        rw [List.length_dropLast, List.getD_eq_getElem?_getD, List.getD_eq_getElem?_getD, List.getElem?_dropLast, if_pos (by omega)]
        congr 2
      rw [this]
    · have hn : nI cs.length - (2 : Int32) < 0 := by
        have := pk_sneg (a := cs.length) (b := 2) (by omega) (by omega)
        exact this
      rw [mh_fx1_value_neg hn]
      have : cs.dropLast = [] := by
        refine List.eq_nil_of_length_eq_zero ?_
        rw [List.length_dropLast]
        omega
      rw [this]
      rfl
  rw [mh_b2_eq hv, mh_nm_eq, mh_nm_eq, nI_add]
  have b1 := hms.1.le (cs.length - 1)
  have b2 : cs.dropLast.getD (cs.dropLast.length - 1) 0 ≤ 300 := (mh_ms_sub hms (List.dropLast_sublist cs)).1.le _
  have key := mh_wh (fun n (q : Nat × mh_H) => f_X11_leastFailure_b26 n (ad 1289) (ad (6 * (σ.1.1 * 8 + p))) (nI (cs.getD (cs.length - 1) 0 + cs.dropLast.getD (cs.dropLast.length - 1) 0)) (nI (q.1 + 1)) q.2) (fun (r : Int32 × mh_H) => some r)
    (fun q => q.1 ≤ 1000 ∧ (∀ t, t < q.1 + 1 → ¬ mh_fl cs t) ∧ mh_Fe q.2 (ad 1011) (ad 1012) (ad 1013) (ad 1014) (ad 1015) (ad 1016) cs ∧ mh_CI q.2 ad σ ∧ mh_frC ad h1 q.2) (fun q => 1000 - q.1)
    (fun r => mh_Blf cs r.1 ∧ mh_CI r.2 ad σ ∧ mh_frC ad h1 r.2)
    (fun n q hq => by
      obtain ⟨i, h2⟩ := q
      obtain ⟨q0, q1, q2, q3, q4⟩ := hq
      have q0 : i ≤ 1000 := q0
      have q1 : ∀ t, t < i + 1 → ¬ mh_fl cs t := q1
      have q2 : mh_Fe h2 (ad 1011) (ad 1012) (ad 1013) (ad 1014) (ad 1015) (ad 1016) cs := q2
      have q3 : mh_CI h2 ad σ := q3
      have q4 : mh_frC ad h1 h2 := q4
      show (∃ s', _ ∧ _ ∧ f_X11_leastFailure_b26 (n + 1) (ad 1289) (ad (6 * (σ.1.1 * 8 + p))) (nI (cs.getD (cs.length - 1) 0 + cs.dropLast.getD (cs.dropLast.length - 1) 0)) (nI (i + 1)) h2 = _) ∨ ∃ r, _ ∧ f_X11_leastFailure_b26 (n + 1) (ad 1289) (ad (6 * (σ.1.1 * 8 + p))) (nI (cs.getD (cs.length - 1) 0 + cs.dropLast.getD (cs.dropLast.length - 1) 0)) (nI (i + 1)) h2 = _
      by_cases hb : cs.getD (cs.length - 1) 0 + cs.dropLast.getD (cs.dropLast.length - 1) 0 ≤ i + 1
      · right
        refine ⟨(-1, h2), ⟨Or.inr ⟨fun s hs => ?_, rfl⟩, q3, q4⟩, ?_⟩
        · obtain ⟨m, m1, m2⟩ := pk_least (mh_fl cs) ⟨s, hs⟩
          by_cases hne : cs = []
          · subst hne
            obtain ⟨n', e1, e2⟩ := m1
            by_cases hm0 : m = 0
            · subst hm0
              rw [mh_mn0] at e1
              cases e1
              exact e2 rfl
            · rw [mh_mn_nil (by omega)] at e1
              cases e1
          · have := mh_fl_bound hms hne m1 m2
            exact q1 m (by unfold mh_tp at this; omega) m1
        · rw [f_X11_leastFailure_b26, if_pos ((nI_leI (by omega) (by omega)).mpr hb)]
          rfl
      · have c1 : ¬ nI (cs.getD (cs.length - 1) 0 + cs.dropLast.getD (cs.dropLast.length - 1) 0) ≤ nI (i + 1) := fun q => hb ((nI_leI (by omega) (by omega)).mp q)
        obtain ⟨h3, e1, e2, e3, _⟩ := mh_fx2_sizeInTable (s := i + 1) (by omega) q2
        obtain ⟨v1, v2⟩ := mh_x_few q3 e2 (e3.sub (by simp))
        obtain ⟨y2, tn2, o2⟩ := q2.ob
        obtain ⟨f3, hc3⟩ := mh_x_mint v1 hp
        rw [hcs] at hc3
        have next : ¬ mh_fl cs (i + 1) → ∃ s' : Nat × mh_H, (s'.1 ≤ 1000 ∧ (∀ t, t < s'.1 + 1 → ¬ mh_fl cs t) ∧ mh_Fe s'.2 (ad 1011) (ad 1012) (ad 1013) (ad 1014) (ad 1015) (ad 1016) cs ∧ mh_CI s'.2 ad σ ∧ mh_frC ad h1 s'.2) ∧ 1000 - s'.1 < 1000 - i ∧ s' = (i + 1, h3) := fun hn => by
          refine ⟨(i + 1, h3), ⟨by show i + 1 ≤ 1000; omega, fun t ht => ?_, e2, v1, q4.trans v2⟩, by show 1000 - (i + 1) < 1000 - i; omega, rfl⟩
          have ht : t < i + 1 + 1 := ht
          by_cases hti : t = i + 1
          · rw [hti]; exact hn
          · exact q1 t (by omega)
        cases hm : mh_mn cs (i + 1) with
        | none =>
          left
          obtain ⟨s', n1, n2, n3⟩ := next (fun ⟨n, e, _⟩ => by rw [hm] at e; cases e)
          refine ⟨s', n1, n2, ?_⟩
          rw [f_X11_leastFailure_b26, if_neg c1, mh_gR_eq (k := 1) q3.ob rfl, Option.bind_some, mh_cal_eq o2, mh_b2_eq e1, hm, if_pos (show mh_sz none = (-1 : Int32) from rfl), n3]
          unfold f_X11_leastFailure_b62
          rw [mh_nm_eq, mh_inc]
        | some m =>
          have hmb := mh_mn_b (fun x hx => (hms.1.2 x hx).1) hm
          have c2 : ¬ mh_sz (some m) = (-1 : Int32) := mh_nI_m1 (by omega)
          have eg := mh_fx1_greatestFirst hc3 (fun i hi => (hms.1.get hi).1) (fun i => hms.1.le i) (s := i + 1) (by omega)
          have pre : f_X11_leastFailure_b26 (n + 1) (ad 1289) (ad (6 * (σ.1.1 * 8 + p))) (nI (cs.getD (cs.length - 1) 0 + cs.dropLast.getD (cs.dropLast.length - 1) 0)) (nI (i + 1)) h2 = if lg_cmp (mh_gy cs (i + 1)) (lN m) = 0 then f_X11_leastFailure_b62 (f_X11_leastFailure_b26 n) (ad 1289) (ad (6 * (σ.1.1 * 8 + p))) (nI (cs.getD (cs.length - 1) 0 + cs.dropLast.getD (cs.dropLast.length - 1) 0)) (nI (i + 1)) h3 else f_X11_leastFailure_b60 (nI (i + 1)) h3 := by
            rw [f_X11_leastFailure_b26, if_neg c1, mh_gR_eq (k := 1) q3.ob rfl, Option.bind_some, mh_cal_eq o2, mh_b2_eq e1, hm, if_neg c2, nI_l (by omega), mh_cal_eq hc3.1, mh_b2_eq eg]
            show (if lg_cmp (mh_gy cs (i + 1)) ((nI m).toInt64) = 0 then _ else _) = _
            rw [nI_l (by omega)]
          by_cases hg : mh_gp2 cs (i + 1) m
          · left
            obtain ⟨s', n1, n2, n3⟩ := next (fun ⟨n, e, ne⟩ => by rw [hm] at e; cases e; exact ne hg)
            refine ⟨s', n1, n2, ?_⟩
            rw [pre, if_pos ((mh_cmp0 _ _).mpr ((mh_gy_iff hms (by omega) (by omega)).mpr hg)), n3]
            unfold f_X11_leastFailure_b62
            rw [mh_nm_eq, mh_inc]
          · right
            refine ⟨(nI (i + 1), h3), ⟨Or.inl ⟨i + 1, by omega, ⟨m, hm, hg⟩, q1, rfl⟩, v1, q4.trans v2⟩, ?_⟩
            rw [pre, if_neg (fun q => hg ((mh_gy_iff hms (by omega) (by omega)).mp ((mh_cmp0 _ _).mp q)))]
            rfl)
    1000 mh_fu (0, h1) (by show 1000 - 0 ≤ 1000; omega) ⟨Nat.zero_le _, fun t ht => ?_, t2, t3, mh_frC.rfl⟩ (mh_fuel _ (by omega))
  · obtain ⟨⟨r, h2⟩, ⟨z1, z2, z3⟩, z4⟩ := key
    exact ⟨r, h2, z4, z1, z2, t4.trans z3⟩
  · have ht : t < 0 + 1 := ht
    rw [show t = 0 by omega]
    intro ⟨n, e, ne⟩
    rw [mh_mn0] at e
    cases e
    refine ne ?_
    unfold mh_gp2
    have hz : ∀ i k, mh_gf cs i 0 k = (0, k) := fun i => by
      induction i with
      | zero => intro k; rfl
      | succ i ih => intro k; rw [mh_gf, Nat.zero_mod, Nat.zero_div, Nat.add_zero]; exact ih k
    exact hz _ 0
theorem mh_K_fails (hC : mh_CI h ad σ) (x1 : Int32) : ∃ r h', f_X11_fails_e (ad 1289) x1 h = some (r, h') ∧ mh_Qm σ x1 (fun cs r => ∃ z, mh_Blf cs z ∧ r = .inr z) r ∧ mh_CI h' ad σ ∧ mh_frC ad h h' := by
  unfold f_X11_fails_e
  rw [mh_cal_eq hC.ob]
  rcases mh_place x1 with ⟨p, p1, p2⟩ | hx
  · subst p2
    obtain ⟨z, h1, e1, e2, e3, e4⟩ := mh_x_leastFailure hC p1
    rw [mh_bx_r (mh_x_mintAt hC p1), mh_cal_eq hC.ob, mh_b2_eq e1]
    exact ⟨_, h1, rfl, Or.inr ⟨p, p1, rfl, z, e2, rfl⟩, e3, e4⟩
  · rw [mh_bx_l (mh_x_mintNo hx)]
    exact ⟨_, h, rfl, Or.inl ⟨hx, rfl⟩, hC, mh_frC.rfl⟩
theorem mh_K_always (hC : mh_CI h ad σ) (x1 : Int32) : ∃ r h', f_X11_always_e (ad 1289) x1 h = some (r, h') ∧ mh_Qm σ x1 (fun cs r => ∃ z, mh_Blf cs z ∧ r = .inr (if z = -1 then 1 else 0)) r ∧ mh_CI h' ad σ ∧ mh_frC ad h h' := by
  unfold f_X11_always_e
  rw [mh_cal_eq hC.ob]
  rcases mh_place x1 with ⟨p, p1, p2⟩ | hx
  · subst p2
    obtain ⟨z, h1, e1, e2, e3, e4⟩ := mh_x_leastFailure hC p1
    rw [mh_bx_r (mh_x_mintAt hC p1), mh_cal_eq hC.ob, mh_b2_eq e1]
    by_cases hz : z = (-1 : Int32)
    · rw [if_pos hz]
      exact ⟨.inr 1, h1, rfl, Or.inr ⟨p, p1, rfl, z, e2, by rw [if_pos hz]⟩, e3, e4⟩
    · rw [if_neg hz]
      exact ⟨.inr 0, h1, rfl, Or.inr ⟨p, p1, rfl, z, e2, by rw [if_neg hz]⟩, e3, e4⟩
  · rw [mh_bx_l (mh_x_mintNo hx)]
    exact ⟨_, h, rfl, Or.inl ⟨hx, rfl⟩, hC, mh_frC.rfl⟩
end MhFails
