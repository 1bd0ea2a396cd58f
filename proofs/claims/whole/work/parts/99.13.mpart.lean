theorem mh_pk_all {P : Nat → Prop} : ∀ (n x : Nat), 1 ≤ x → x ≤ n → P x → mh_py (mh_pk P n) x := by
  intro n
  induction n with
  | zero => intro x h1 h2; omega
  | succ n ih =>
    intro x h1 h2 hx
    by_cases c : P (n + 1) ∧ ¬ mh_py (mh_pk P n) (n + 1)
    · rw [mh_pk_y c]
      by_cases e : x = n + 1
      · rw [e]
        exact mh_py_c (List.mem_append.mpr (Or.inr List.mem_cons_self))
      · exact mh_py_app.mpr (Or.inl (ih x h1 (by omega) hx))
    · rw [mh_pk_n c]
      by_cases e : x = n + 1
      · rw [e] at hx ⊢
        exact Classical.byContradiction (fun q => c ⟨hx, q⟩)
      · exact ih x h1 (by omega) hx
theorem mh_py_cl {P : Nat → Prop} {K : List Nat} (h0 : P 0) (ha : ∀ x y, P x → P y → P (x + y)) (hK : ∀ x, x ∈ K → P x) {s : Nat} (h : mh_py K s) : P s := by
  obtain ⟨n, l, l1, l2, l3⟩ := h
  rw [← l2]
  clear l2 l3
  induction l with
  | nil => exact h0
  | cons x l ih =>
    rw [List.sum_cons]
    exact ha _ _ (hK x (l1 x List.mem_cons_self)) (ih (fun y hy => l1 y (List.mem_cons_of_mem _ hy)))
theorem mh_part_all {A B : List Nat} (hA : mh_ms A) (hB : mh_ms B) (h : ∀ s, s ≤ 200000 → mh_both A B s → mh_py (mh_pk (mh_both A B) 300) s) (s : Nat) (hs : mh_both A B s) : mh_py (mh_pk (mh_both A B) 300) s := by
  by_cases c : s ≤ 200000
  · exact h s c hs
  · have neA : A ≠ [] := fun q => by have := hs.1; rw [q] at this; have := mh_py_nil.mp this; omega
    have neB : B ≠ [] := fun q => by have := hs.2; rw [q] at this; have := mh_py_nil.mp this; omega
    have lA : 0 < A.length := Nat.pos_of_ne_zero (fun q => neA (List.length_eq_zero_iff.mp q))
    have lB : 0 < B.length := Nat.pos_of_ne_zero (fun q => neB (List.length_eq_zero_iff.mp q))
    have bA := hA.1.get lA
    have bB := hB.1.get lB
    obtain ⟨K, eK⟩ : ∃ K, K = mh_pk (mh_both A B) 300 := ⟨_, rfl⟩
    have kin : ∀ x, x ∈ K → 1 ≤ x ∧ x ≤ 300 ∧ mh_both A B x := fun x hx => by rw [eK] at hx; exact mh_pk_in 300 x hx
    rw [← eK] at h ⊢
    -- there is a coin in K
    have ab : mh_both A B (A.getD 0 0 * B.getD 0 0) := ⟨by rw [Nat.mul_comm]; exact mh_py_mul (mh_py_c (mh_get_mem lA)) _, mh_py_mul (mh_py_c (mh_get_mem lB)) _⟩
    have le := Nat.mul_le_mul bA.2 bB.2
    have ge := Nat.mul_le_mul bA.1 bB.1
    have kne : K ≠ [] := fun q => by
      have := h _ (by omega) ab
      rw [q] at this
      have := mh_py_nil.mp this
      omega
    obtain ⟨m, hm⟩ := List.exists_mem_of_ne_nil K kne
    obtain ⟨m1, m2, m3⟩ := kin m hm
    obtain ⟨sa, a1, a2, a3⟩ := mh_small hA (show 0 < m by omega) m2 hs.1
    obtain ⟨sb, b1, b2, b3⟩ := mh_small hB (show 0 < m by omega) m2 hs.2
    -- up from a paid sum by m
    have up : ∀ (C : List Nat) (x y : Nat), mh_py C m → mh_py C x → x ≤ y → x % m = y % m → mh_py C y := fun C x y hC hx hle hmod => by
      have e : y = x + (y / m - x / m) * m := by
        have d1 := Nat.mod_add_div x m
        have d2 := Nat.mod_add_div y m
        have d3 := Nat.mul_le_mul_right m (Nat.div_le_div_right (c := m) hle)
        rw [Nat.sub_mul]
        rw [Nat.mul_comm] at d1 d2
        omega
      rw [e]
      exact mh_py_add hx (mh_py_mul hC _)
    obtain ⟨t, et⟩ : ∃ t, t = max sa sb := ⟨_, rfl⟩
    have tm : t % m = s % m := by
      rcases Nat.le_total sa sb with q | q
      · rw [et, Nat.max_eq_right q]; exact b3
      · rw [et, Nat.max_eq_left q]; exact a3
    have tl : sa ≤ t ∧ sb ≤ t ∧ t ≤ 89700 := by rw [et]; omega
    have bt : mh_both A B t := ⟨up A sa t m3.1 a2 tl.1 (a3.trans tm.symm), up B sb t m3.2 b2 tl.2.1 (b3.trans tm.symm)⟩
    exact up K t s (mh_py_c hm) (h t (by omega) bt) (by omega) tm
theorem mh_fac_all {A : List Nat} (hA : mh_ms A) {d : Nat} (hd : 1 ≤ d) : ∀ (n s : Nat), s ≤ n → mh_py A (d * s) → mh_py (mh_pk (fun s => mh_py A (d * s)) 300) s := by
  intro n
  induction n with
  | zero =>
    intro s hs _
    rw [show s = 0 by omega]
    exact mh_py0 _
  | succ n ih =>
    intro s hs hp
    by_cases s0 : s = 0
    · rw [s0]; exact mh_py0 _
    · obtain ⟨k, l, l1, l2, l3⟩ := hp
      have lb : ∀ x, x ∈ l → x ≤ 300 := fun x hx => (hA.1.2 x (l1 x hx)).2
      by_cases c : d ≤ l.length
      · obtain ⟨u, b, v, e, b0, b1, b2⟩ := mh_blk (show 0 < d by omega) c
        obtain ⟨t, et⟩ := b2
        have bm : ∀ x, x ∈ b → x ∈ l := fun x hx => by rw [e]; simp [hx]
        have sl := mh_sum_le b (B := 300) (fun x hx => lb x (bm x hx))
        have t2 : t ≤ 300 := by
          have h1 : d * t ≤ d * 300 := by
            rw [← et]
            exact Nat.le_trans sl (Nat.mul_le_mul_right 300 b1)
          exact Nat.le_of_mul_le_mul_left h1 (by omega)
        have t1 : 1 ≤ t := by
          refine Nat.pos_of_ne_zero (fun q => ?_)
          obtain ⟨x, hx⟩ := List.exists_mem_of_ne_nil b b0
          have h1 := (hA.1.2 x (l1 x (bm x hx))).1
          have h2 := mh_mem_le hx
          rw [et, q, Nat.mul_zero] at h2
          omega
        have es : d * s = d * t + (u.sum + v.sum) := by
          rw [← et, ← l2, e, List.sum_append_nat, List.sum_append_nat]
          omega
        have ts : t ≤ s := by
          refine Nat.le_of_not_lt (fun q => ?_)
          have := Nat.mul_lt_mul_of_pos_left q (show 0 < d by omega)
          omega
        have er : d * (s - t) = u.sum + v.sum := by rw [Nat.mul_sub]; omega
        have p1 : mh_py A (d * t) := ⟨b.length, b, fun x hx => l1 x (bm x hx), et, rfl⟩
        have p2 : mh_py A (d * (s - t)) := ⟨(u ++ v).length, u ++ v, fun x hx => l1 x (by
          rw [e]
          rcases List.mem_append.mp hx with q | q
          · simp [q]
          · simp [q]), by rw [List.sum_append_nat, er], rfl⟩
        have := mh_py_add (mh_pk_all 300 t t1 t2 p1) (ih (s - t) (by omega) p2)
        rwa [Nat.add_sub_cancel' ts] at this
      · have sl := mh_sum_le l (B := 300) lb
        have s3 : s ≤ 300 := by
          have h1 : d * s ≤ d * 300 := by
            rw [← l2]
            exact Nat.le_trans sl (Nat.mul_le_mul_right 300 (by omega))
          exact Nat.le_of_mul_le_mul_left h1 (by omega)
        exact mh_pk_all 300 s (by omega) s3 ⟨k, l, l1, l2, l3⟩
section MhModelP
variable {h : mh_H} {bd : Nat → Nat} {σ : mh_Sg} {F : Nat → Int32}
theorem mh_r_ga0 {g0 : Nat → Int32} (hI : mh_Inj bd 99) (ho : h (bd 0) = some (.inr (12, mh_rf bd F))) (hb : h (bd 40) = some (.inl (2, 200001, .inl g0))) : ∃ h' g, f_X12_gather_b2 mh_fu (bd 0) 0 h = f_X12_gather_b29 (bd 0) h' ∧ h' (bd 40) = some (.inl (2, 200001, .inl g)) ∧ mh_fr [bd 40] h h' ∧ ∀ t, t ≤ 200000 → mh_bp (g t) (mh_py [] t) := by
  have key := mh_wh (fun m (q : Nat × mh_H) => f_X12_gather_b2 m (bd 0) (nI q.1) q.2) (fun (r : mh_H) => f_X12_gather_b29 (bd 0) r) (fun q => q.1 ≤ 200001 ∧ mh_fr [bd 40] h q.2 ∧ ∃ g, q.2 (bd 40) = some (.inl (2, 200001, .inl g)) ∧ ∀ t, t < q.1 → mh_bp (g t) (mh_py [] t)) (fun q => 200001 - q.1) (fun r => mh_fr [bd 40] h r ∧ ∃ g, r (bd 40) = some (.inl (2, 200001, .inl g)) ∧ ∀ t, t ≤ 200000 → mh_bp (g t) (mh_py [] t))
    (fun m q hq => by
      obtain ⟨s, hh⟩ := q
      obtain ⟨q1, q2, g, q3, q4⟩ := hq
      have q1 : s ≤ 200001 := q1
      have q2 : mh_fr [bd 40] h hh := q2
      have q3 : hh (bd 40) = some (.inl (2, 200001, .inl g)) := q3
      have q4 : ∀ t, t < s → mh_bp (g t) (mh_py [] t) := q4
      show (∃ s', _ ∧ _ ∧ f_X12_gather_b2 (m + 1) (bd 0) (nI s) hh = _) ∨ ∃ r, _ ∧ f_X12_gather_b2 (m + 1) (bd 0) (nI s) hh = _
      have ho' := (q2 (bd 0) (by simp [hI.ne (show 0 < 99 by omega) (show 40 < 99 by omega) (by omega)])).trans ho
      rw [f_X12_gather_b2]
      by_cases c : s ≤ 200000
      · left
        have fin : ∀ v : Int32, (v = 0 ∨ v = 1) → mh_bp v (mh_py [] s) → ∃ s' : Nat × mh_H, (s'.1 ≤ 200001 ∧ mh_fr [bd 40] h s'.2 ∧ ∃ g, s'.2 (bd 40) = some (.inl (2, 200001, .inl g)) ∧ ∀ t, t < s'.1 → mh_bp (g t) (mh_py [] t)) ∧ 200001 - s'.1 < 200001 - s ∧ f_X12_gather_b22 (f_X12_gather_b2 m) (bd 0) (nI s) (bd 40) (nI s) v hh = f_X12_gather_b2 m (bd 0) (nI s'.1) s'.2 := fun v hv hb => by
          refine ⟨(s + 1, mh_up hh (bd 40) (.inl (2, 200001, .inl (upd g s v)))), ⟨by show s + 1 ≤ 200001; omega, q2.trans (mh_fr.up List.mem_cons_self), _, mh_up_eq _ _ _, fun t ht => ?_⟩, by show 200001 - (s + 1) < 200001 - s; omega, ?_⟩
          · have ht : t < s + 1 := ht
            by_cases e : t = s
            · rw [e, pk_us]; exact hb
            · rw [pk_un e]; exact q4 t (by omega)
          · unfold f_X12_gather_b22
            rw [mh_sZ_eq q3 (by omega) (by omega) hv, Option.bind_some, mh_nm_eq, mh_inc]
        rw [if_neg (fun q => absurd ((mh_ltl (a := 200000) 200000 rfl (by omega) (by omega)).mp q) (by omega)), mh_gR_eq (k := 10) ho' rfl, Option.bind_some]
        have zb := mh_bp_z0 s
        by_cases e : s = 0
        · rw [if_pos e] at zb
          rw [if_pos ((mh_eqr (b := 0) 0 rfl (by omega) (by omega)).mpr e)]
          exact fin 1 (Or.inr rfl) zb
        · rw [if_neg e] at zb
          rw [if_neg (fun q => e ((mh_eqr (b := 0) 0 rfl (by omega) (by omega)).mp q))]
          exact fin 0 (Or.inl rfl) zb
      · right
        exact ⟨hh, ⟨q2, g, q3, fun t ht => q4 t (by omega)⟩, by rw [if_pos ((mh_ltl (a := 200000) 200000 rfl (by omega) (by omega)).mpr (by omega))]⟩)
    200001 mh_fu (0, h) (by show 200001 - 0 ≤ 200001; omega) ⟨Nat.zero_le _, mh_fr.rfl, g0, hb, fun i hi => absurd hi (Nat.not_lt_zero i)⟩ (mh_fuel _ (by omega))
  obtain ⟨h', ⟨z1, g, z2, z3⟩, z4⟩ := key
  exact ⟨h', g, z4, z2, z1, z3⟩
theorem mh_r_ga1 (k143 : Nat → Int32 → mh_H → Option (Int32 × mh_H)) {g0 : Nat → Int32} {K : List Nat} {c : Nat} (hI : mh_Inj bd 99) (ho : h (bd 0) = some (.inr (12, mh_rf bd F))) (hb : h (bd 40) = some (.inl (2, 200001, .inl g0))) (hK : ∀ t, t ≤ 200000 → mh_bp (g0 t) (mh_py K t)) (h1 : 1 ≤ c) (h2 : c ≤ 300) : ∃ h' g, f_X12_gather_b100 k143 mh_fu (bd 0) (nI c) (nI c) h = k143 (bd 0) (nI c) h' ∧ h' (bd 40) = some (.inl (2, 200001, .inl g)) ∧ mh_fr [bd 40] h h' ∧ ∀ t, t ≤ 200000 → mh_bp (g t) (mh_py (K ++ [c]) t) := by
  have key := mh_wh (fun m (q : Nat × mh_H) => f_X12_gather_b100 k143 m (bd 0) (nI c) (nI q.1) q.2) (fun (r : mh_H) => k143 (bd 0) (nI c) r) (fun q => c ≤ q.1 ∧ q.1 ≤ 200001 ∧ mh_fr [bd 40] h q.2 ∧ ∃ g, q.2 (bd 40) = some (.inl (2, 200001, .inl g)) ∧ mh_prw 200000 K c q.1 g) (fun q => 200001 - q.1) (fun r => mh_fr [bd 40] h r ∧ ∃ g, r (bd 40) = some (.inl (2, 200001, .inl g)) ∧ ∀ t, t ≤ 200000 → mh_bp (g t) (mh_py (K ++ [c]) t))
    (fun m q hq => by
      obtain ⟨s, hh⟩ := q
      obtain ⟨q0, q1, q2, g, q3, q4⟩ := hq
      have q0 : c ≤ s := q0
      have q1 : s ≤ 200001 := q1
      have q2 : mh_fr [bd 40] h hh := q2
      have q3 : hh (bd 40) = some (.inl (2, 200001, .inl g)) := q3
      have q4 : mh_prw 200000 K c s g := q4
      show (∃ s', _ ∧ _ ∧ f_X12_gather_b100 k143 (m + 1) (bd 0) (nI c) (nI s) hh = _) ∨ ∃ r, _ ∧ f_X12_gather_b100 k143 (m + 1) (bd 0) (nI c) (nI s) hh = _
      have ho' := (q2 (bd 0) (by simp [hI.ne (show 0 < 99 by omega) (show 40 < 99 by omega) (by omega)])).trans ho
      rw [f_X12_gather_b100]
      by_cases c1 : s ≤ 200000
      · left
        have fin : ∀ v : Int32, (v = 0 ∨ v = 1) → mh_bp v (mh_py K s ∨ mh_py (K ++ [c]) (s - c)) → ∃ s' : Nat × mh_H, (c ≤ s'.1 ∧ s'.1 ≤ 200001 ∧ mh_fr [bd 40] h s'.2 ∧ ∃ g, s'.2 (bd 40) = some (.inl (2, 200001, .inl g)) ∧ mh_prw 200000 K c s'.1 g) ∧ 200001 - s'.1 < 200001 - s ∧ f_X12_gather_b136 (f_X12_gather_b100 k143 m) (bd 0) (nI c) (nI s) (bd 40) (nI s) v hh = f_X12_gather_b100 k143 m (bd 0) (nI c) (nI s'.1) s'.2 := fun v hv hb => by
          refine ⟨(s + 1, mh_up hh (bd 40) (.inl (2, 200001, .inl (upd g s v)))), ⟨by show c ≤ s + 1; omega, by show s + 1 ≤ 200001; omega, q2.trans (mh_fr.up List.mem_cons_self), _, mh_up_eq _ _ _, mh_prw_s q0 q4 hb⟩, by show 200001 - (s + 1) < 200001 - s; omega, ?_⟩
          unfold f_X12_gather_b136
          rw [mh_sZ_eq q3 (by omega) (by omega) hv, Option.bind_some, mh_nm_eq, mh_inc]
        have b1 := q4.2 s (Nat.le_refl _) c1
        have b2 := q4.1 (s - c) (by omega) (by omega)
        rw [if_neg (fun q => absurd ((mh_ltl (a := 200000) 200000 rfl (by omega) (by omega)).mp q) (by omega)), mh_gR_eq (k := 10) ho' rfl, Option.bind_some, Option.bind_some, mh_aI_eq q3 (show s < 200001 by omega) (by omega), Option.bind_some]
        by_cases c2 : g s = 0
        · rw [if_pos c2, Option.bind_some, pk_sub q0, mh_aI_eq q3 (show s - c < 200001 by omega) (by omega), Option.bind_some]
          by_cases c3 : g (s - c) = 0
          · rw [if_pos c3]
            exact fin 0 (Or.inl rfl) (mh_bp_or0 b1 b2 c2 c3)
          · rw [if_neg c3]
            exact fin 1 (Or.inr rfl) (mh_bp_or1 (x := 0) b2 c3)
        · rw [if_neg c2]
          exact fin 1 (Or.inr rfl) (mh_bp_or2 b1 c2)
      · right
        exact ⟨hh, ⟨q2, g, q3, fun t ht => q4.1 t (by omega) ht⟩, by rw [if_pos ((mh_ltl (a := 200000) 200000 rfl (by omega) (by omega)).mpr (by omega))]⟩)
    200001 mh_fu (c, h) (by show 200001 - c ≤ 200001; omega) ⟨Nat.le_refl _, by show c ≤ 200001; omega, mh_fr.rfl, g0, hb, mh_prw_0 hK⟩ (mh_fuel _ (by omega))
  obtain ⟨h', ⟨z1, g, z2, z3⟩, z4⟩ := key
  exact ⟨h', g, z4, z2, z1, z3⟩
def mh_okq (P : Nat → Prop) : Prop := (mh_pk P 300).length ≤ 12 ∧ ∀ s, s ≤ 200000 → P s → mh_py (mh_pk P 300) s
/-- the least coins that pay a set of sums -/
theorem mh_r_gather (hR : mh_RI h bd σ F) {P : Nat → Prop} (P0 : P 0) (Pa : ∀ x y, P x → P y → P (x + y)) {fb : Nat → Int32} (hfb : h (bd 41) = some (.inl (2, 200001, .inl fb))) (hbv : ∀ t, t ≤ 200000 → mh_bp (fb t) (P t)) : ∃ r h' F', f_X12_gather_e (bd 0) h = some (r, h') ∧ mh_RI h' bd σ F' ∧ (∀ j, j ≠ 14 → F' j = F j) ∧ ((r = 1 ∧ mh_okq P ∧ mh_Sm h' bd F' (mh_pk P 300)) ∨ (r = 0 ∧ ¬ mh_okq P)) ∧ mh_frR bd h h' := by
  have hI := hR.1
  have ho := hR.ob
  obtain ⟨f1, f2, f3, c1, c2, c3⟩ := hR.2 4 (by omega)
  obtain ⟨f6, c6⟩ := hR.2 6 (by omega)
  obtain ⟨h1, g1, y1, y2, y3, y4⟩ := mh_r_ga0 hI ho c2
  have k1 : ∀ y, y < 99 → y ≠ 40 → h1 (bd y) = h (bd y) := fun y hy e => y3 _ (by simp [hI.ne hy (show 40 < 99 by omega) e])
  have o1 := (k1 0 (by omega) (by omega)).trans ho
  have p2 := mh_r_put14 o1 0
  obtain ⟨h2, e2⟩ : ∃ h2, h2 = mh_up h1 (bd 0) (.inr (12, mh_rf bd (upd F 14 0))) := ⟨_, rfl⟩
  rw [← e2] at p2
  have o2 : h2 (bd 0) = some (.inr (12, mh_rf bd (upd F 14 0))) := by rw [e2]; exact mh_up_eq _ _ _
  have k2 : ∀ y, y < 99 → y ≠ 0 → h2 (bd y) = h1 (bd y) := fun y hy e => by rw [e2]; exact mh_up_ne (hI.ne hy (by omega) e)
  have kin : ∀ n x, x ∈ mh_pk P n → P x := fun n x hx => (mh_pk_in n x hx).2.2
  have key := mh_wh (fun m (q : Nat × mh_H) => f_X12_gather_b36 m (bd 0) (nI (q.1 + 1)) q.2) (fun (r : Int32 × mh_H) => some r) (fun q => q.1 ≤ 200000 ∧ (mh_pk P (min q.1 300)).length ≤ 12 ∧ (∀ x, x ≤ q.1 → P x → mh_py (mh_pk P (min q.1 300)) x) ∧ ∃ F' f g, q.2 (bd 0) = some (.inr (12, mh_rf bd F')) ∧ F' 14 = nI (mh_pk P (min q.1 300)).length ∧ (∀ j, j ≠ 14 → F' j = F j) ∧ q.2 (bd 56) = some (.inl (0, 24, .inl f)) ∧ (∀ i, i < (mh_pk P (min q.1 300)).length → f i = nI ((mh_pk P (min q.1 300)).getD i 0)) ∧ q.2 (bd 40) = some (.inl (2, 200001, .inl g)) ∧ (∀ t, t ≤ 200000 → mh_bp (g t) (mh_py (mh_pk P (min q.1 300)) t)) ∧ mh_fr [bd 0, bd 40, bd 56] h q.2) (fun q => 200000 - q.1) (fun r => ∃ F' f g, r.2 (bd 0) = some (.inr (12, mh_rf bd F')) ∧ (∀ j, j ≠ 14 → F' j = F j) ∧ r.2 (bd 56) = some (.inl (0, 24, .inl f)) ∧ r.2 (bd 40) = some (.inl (2, 200001, .inl g)) ∧ mh_fr [bd 0, bd 40, bd 56] h r.2 ∧ ((r.1 = 1 ∧ mh_okq P ∧ F' 14 = nI (mh_pk P 300).length ∧ ∀ i, i < (mh_pk P 300).length → f i = nI ((mh_pk P 300).getD i 0)) ∨ (r.1 = 0 ∧ ¬ mh_okq P)))
    (fun m q hq => by
      obtain ⟨c, hh⟩ := q
      obtain ⟨q1, q2, q3, F', f, g, q4, q5, q6, q7, q8, q9, q10, q11⟩ := hq
      have q1 : c ≤ 200000 := q1
      have q4 : hh (bd 0) = some (.inr (12, mh_rf bd F')) := q4
      have q7 : hh (bd 56) = some (.inl (0, 24, .inl f)) := q7
      have q9 : hh (bd 40) = some (.inl (2, 200001, .inl g)) := q9
      have q11 : mh_fr [bd 0, bd 40, bd 56] h hh := q11
      obtain ⟨K, eK⟩ : ∃ K, K = mh_pk P (min c 300) := ⟨_, rfl⟩
      have q2 : K.length ≤ 12 := by rw [eK]; exact q2
      have q3 : ∀ x, x ≤ c → P x → mh_py K x := by rw [eK]; exact q3
      have q5 : F' 14 = nI K.length := by rw [eK]; exact q5
      have q8 : ∀ i, i < K.length → f i = nI (K.getD i 0) := by rw [eK]; exact q8
      have q10 : ∀ t, t ≤ 200000 → mh_bp (g t) (mh_py K t) := by rw [eK]; exact q10
      have kc : ∀ s, mh_py K s → P s := fun s hs => mh_py_cl P0 Pa (fun x hx => by rw [eK] at hx; exact kin _ x hx) hs
      show (∃ s', _ ∧ _ ∧ f_X12_gather_b36 (m + 1) (bd 0) (nI (c + 1)) hh = _) ∨ ∃ r, _ ∧ f_X12_gather_b36 (m + 1) (bd 0) (nI (c + 1)) hh = _
      have hb' : hh (bd 41) = some (.inl (2, 200001, .inl fb)) := (q11 (bd 41) (by simp [hI.ne (show 41 < 99 by omega) (show 0 < 99 by omega) (by omega), hI.ne (show 41 < 99 by omega) (show 40 < 99 by omega) (by omega), hI.ne (show 41 < 99 by omega) (show 56 < 99 by omega) (by omega)])).trans hfb
      rw [f_X12_gather_b36]
      by_cases hlt : c + 1 ≤ 200000
      · have b1 := hbv (c + 1) hlt
        have b2 := q10 (c + 1) hlt
        rw [if_neg (fun q => absurd ((mh_ltl (a := 200000) 200000 rfl (by omega) (by omega)).mp q) (by omega)), mh_gR_eq (k := 11) q4 rfl, Option.bind_some, mh_aI_eq hb' (show c + 1 < 200001 by omega) (by omega), Option.bind_some, mh_gR_eq (k := 10) q4 rfl, Option.bind_some, mh_aI_eq q9 (show c + 1 < 200001 by omega) (by omega), Option.bind_some]
        by_cases ce : fb (c + 1) = g (c + 1)
        · left
          have iff : P (c + 1) → mh_py K (c + 1) := fun hp => by
            have := b1.o.mpr hp
            rw [ce] at this
            exact b2.o.mp this
          have eK2 : mh_pk P (min (c + 1) 300) = K := by
            by_cases c3 : c + 1 ≤ 300
            · rw [Nat.min_eq_left c3]
              rw [Nat.min_eq_left (show c ≤ 300 by omega)] at eK
              rw [eK]
              exact mh_pk_n (fun q => q.2 (by rw [← eK]; exact iff q.1))
            · rw [Nat.min_eq_right (by omega)]
              rw [Nat.min_eq_right (show 300 ≤ c by omega)] at eK
              exact eK.symm
          refine ⟨(c + 1, hh), ⟨hlt, ?_, ?_, F', f, g, q4, ?_, q6, q7, ?_, q9, ?_, q11⟩, by show 200000 - (c + 1) < 200000 - c; omega, ?_⟩
          · show (mh_pk P (min (c + 1) 300)).length ≤ 12
            rw [eK2]; exact q2
          · show ∀ x, x ≤ c + 1 → P x → mh_py (mh_pk P (min (c + 1) 300)) x
            rw [eK2]
            intro x hx hp
            by_cases e : x = c + 1
            · rw [e] at hp ⊢; exact iff hp
            · exact q3 x (by omega) hp
          · show F' 14 = nI (mh_pk P (min (c + 1) 300)).length
            rw [eK2]; exact q5
          · show ∀ i, i < (mh_pk P (min (c + 1) 300)).length → f i = nI ((mh_pk P (min (c + 1) 300)).getD i 0)
            rw [eK2]; exact q8
          · show ∀ t, t ≤ 200000 → mh_bp (g t) (mh_py (mh_pk P (min (c + 1) 300)) t)
            rw [eK2]; exact q10
          · rw [if_pos ce]
            unfold f_X12_gather_b143
            rw [mh_nm_eq, mh_inc]
        · have dif : P (c + 1) ∧ ¬ mh_py K (c + 1) := by
            rcases b1 with ⟨r1, r2⟩ | ⟨r1, r2⟩
            · rcases b2 with ⟨r3, r4⟩ | ⟨r3, r4⟩
              · exact absurd (r2.trans r4.symm) ce
              · exact ⟨r1, r3⟩
            · rcases b2 with ⟨r3, r4⟩ | ⟨r3, r4⟩
              · exact absurd (kc _ r3) r1
              · exact absurd (r2.trans r4.symm) ce
          rw [if_neg ce]
          by_cases c3 : c + 1 ≤ 300
          · rw [Nat.min_eq_left (show c ≤ 300 by omega)] at eK
            have eK2 : mh_pk P (c + 1) = K ++ [c + 1] := by rw [eK] at dif ⊢; exact mh_pk_y dif
            rw [if_neg (fun q => absurd ((mh_ltl (a := 300) 300 rfl (by omega) (by omega)).mp q) (by omega)), mh_gI_eq (k := 14) q4 rfl, Option.bind_some, q5]
            by_cases c4 : K.length = 12
            · right
              refine ⟨(0, hh), ⟨F', f, g, q4, q6, q7, q9, q11, Or.inr ⟨rfl, fun q => ?_⟩⟩, by rw [if_pos (by rw [c4]; rfl)]; rfl⟩
              have := mh_pk_len (off := P) c3
              rw [eK2, List.length_append] at this
              have : K.length + 1 ≤ _ := this
              have := q.1
              omega
            · left
              obtain ⟨H3, e3⟩ : ∃ H3, H3 = mh_up hh (bd 56) (.inl (0, 24, .inl (upd f K.length (nI (c + 1))))) := ⟨_, rfl⟩
              have s3 : mh_sI hh (bd 56) (nI K.length) (nI (c + 1)) = some H3 := by rw [e3]; exact mh_sI_eq q7 (by omega) (by omega)
              have o3 : H3 (bd 0) = some (.inr (12, mh_rf bd F')) := by rw [e3, mh_up_ne (hI.ne (by omega) (by omega) (by omega))]; exact q4
              have p4 := mh_r_put14 o3 (nI (K.length + 1))
              obtain ⟨H4, e4⟩ : ∃ H4, H4 = mh_up H3 (bd 0) (.inr (12, mh_rf bd (upd F' 14 (nI (K.length + 1))))) := ⟨_, rfl⟩
              rw [← e4] at p4
              have o4 : H4 (bd 0) = some (.inr (12, mh_rf bd (upd F' 14 (nI (K.length + 1))))) := by rw [e4]; exact mh_up_eq _ _ _
              have g4 : H4 (bd 40) = some (.inl (2, 200001, .inl g)) := by rw [e4, mh_up_ne (hI.ne (by omega) (by omega) (by omega)), e3, mh_up_ne (hI.ne (by omega) (by omega) (by omega))]; exact q9
              have s4 : H4 (bd 56) = some (.inl (0, 24, .inl (upd f K.length (nI (c + 1))))) := by rw [e4, mh_up_ne (hI.ne (by omega) (by omega) (by omega)), e3]; exact mh_up_eq _ _ _
              have r4 : mh_fr [bd 0, bd 40, bd 56] h H4 := by rw [e4, e3]; exact q11.trans ((mh_fr.up (by simp)).trans (mh_fr.up (by simp)))
              obtain ⟨H5, g5, u1, u2, u3, u4⟩ := mh_r_ga1 (h := H4) (f_X12_gather_b143 (f_X12_gather_b36 m)) hI o4 g4 q10 (show 1 ≤ c + 1 by omega) c3
              have k5 : ∀ y, y < 99 → y ≠ 40 → H5 (bd y) = H4 (bd y) := fun y hy e => u3 _ (by simp [hI.ne hy (show 40 < 99 by omega) e])
              have em : min (c + 1) 300 = c + 1 := Nat.min_eq_left c3
              refine ⟨(c + 1, H5), ⟨hlt, ?_, ?_, upd F' 14 (nI (K.length + 1)), upd f K.length (nI (c + 1)), g5, (k5 0 (by omega) (by omega)).trans o4, ?_, fun j e => by rw [pk_un e]; exact q6 j e, (k5 56 (by omega) (by omega)).trans s4, ?_, u2, ?_, r4.trans (u3.sub (fun x hx => by rw [List.mem_singleton.mp hx]; simp))⟩, by show 200000 - (c + 1) < 200000 - c; omega, ?_⟩
              · show (mh_pk P (min (c + 1) 300)).length ≤ 12
                rw [em, eK2, List.length_append]
                show K.length + 1 ≤ 12
                omega
              · show ∀ x, x ≤ c + 1 → P x → mh_py (mh_pk P (min (c + 1) 300)) x
                rw [em, eK2]
                intro x hx hp
                by_cases e : x = c + 1
                · rw [e]; exact mh_py_c (List.mem_append.mpr (Or.inr List.mem_cons_self))
                · exact mh_py_app.mpr (Or.inl (q3 x (by omega) hp))
              · show _ = nI (mh_pk P (min (c + 1) 300)).length
                rw [em, eK2, List.length_append, pk_us]
                rfl
              · show ∀ i, i < (mh_pk P (min (c + 1) 300)).length → _ = nI ((mh_pk P (min (c + 1) 300)).getD i 0)
                rw [em, eK2, List.length_append]
                intro i hi
                have hi : i < K.length + 1 := hi
                rw [mh_snoc_get hi]
                by_cases e : i = K.length
                · rw [if_pos e, e, pk_us]
                · rw [if_neg e, pk_un e]; exact q8 i (by omega)
              · show ∀ t, t ≤ 200000 → mh_bp (g5 t) (mh_py (mh_pk P (min (c + 1) 300)) t)
                rw [em, eK2]; exact u4
              · rw [if_neg (fun q => c4 ((mh_eqr (b := 12) 12 rfl (by omega) (by omega)).mp q)), mh_gR_eq (k := 13) q4 rfl, Option.bind_some, Option.bind_some, s3, Option.bind_some, mh_gI_eq (k := 14) o3 rfl, Option.bind_some, q5, nI_1, p4, Option.bind_some, u1]
                unfold f_X12_gather_b143
                rw [mh_nm_eq, mh_inc]
          · right
            rw [Nat.min_eq_right (show 300 ≤ c by omega)] at eK
            exact ⟨(0, hh), ⟨F', f, g, q4, q6, q7, q9, q11, Or.inr ⟨rfl, fun q => dif.2 (by rw [eK]; exact q.2 _ hlt dif.1)⟩⟩, by rw [if_pos ((mh_ltl (a := 300) 300 rfl (by omega) (by omega)).mpr (by omega))]; rfl⟩
      · right
        have ec : c = 200000 := by omega
        rw [Nat.min_eq_right (show 300 ≤ c by omega)] at eK
        refine ⟨(1, hh), ⟨F', f, g, q4, q6, q7, q9, q11, Or.inl ⟨rfl, ⟨by rw [← eK]; exact q2, fun s hs hp => by rw [← eK]; exact q3 s (by omega) hp⟩, by rw [← eK]; exact q5, by rw [← eK]; exact q8⟩⟩, by rw [if_pos ((mh_ltl (a := 200000) 200000 rfl (by omega) (by omega)).mpr (by omega))]; rfl⟩)
    200000 mh_fu (0, h2) (by show 200000 - 0 ≤ 200000; omega) ⟨Nat.zero_le _, Nat.zero_le _, fun x hx _ => by rw [show x = 0 from Nat.le_zero.mp hx]; exact mh_py0 _, upd F 14 0, f6, g1, o2, pk_us, fun j e => pk_un e, ((k2 56 (by omega) (by omega)).trans (k1 56 (by omega) (by omega))).trans c6, fun i hi => absurd hi (Nat.not_lt_zero i), (k2 40 (by omega) (by omega)).trans y2, y4, by
      show mh_fr [bd 0, bd 40, bd 56] h h2
      rw [e2]
      exact (y3.sub (fun x hx => by rw [List.mem_singleton.mp hx]; simp)).trans (mh_fr.up (by simp))⟩ (mh_fuel _ (by omega))
  obtain ⟨⟨r, h3⟩, ⟨F', f, g, z1, z2, z3, z4, z5, z6⟩, z7⟩ := key
  have z1 : h3 (bd 0) = some (.inr (12, mh_rf bd F')) := z1
  have z3 : h3 (bd 56) = some (.inl (0, 24, .inl f)) := z3
  have z4 : h3 (bd 40) = some (.inl (2, 200001, .inl g)) := z4
  have z5 : mh_fr [bd 0, bd 40, bd 56] h h3 := z5
  have z7 : f_X12_gather_b36 mh_fu (bd 0) 1 h2 = some (r, h3) := z7
  have k3 : ∀ y, y < 99 → y ≠ 0 → y ≠ 40 → y ≠ 56 → h3 (bd y) = h (bd y) := fun y hy e1 e2 e3 => z5 _ (by simp [hI.ne hy (show 0 < 99 by omega) e1, hI.ne hy (show 40 < 99 by omega) e2, hI.ne hy (show 56 < 99 by omega) e3])
  obtain ⟨R3, fR⟩ := hR.fl (h' := h3) (F' := F') (fun j _ e _ _ _ _ => z2 j e) z1 [4, 6] (fun i hi => by simp only [List.mem_cons, List.not_mem_nil, or_false] at hi; omega) (fun b b1 b2 => z5 b (by simp [b1, b2 4 (by decide) 40 (by decide) (by decide), b2 6 (by decide) 56 (by decide) (by decide)])) (fun i hi => by
    simp only [List.mem_cons, List.not_mem_nil, or_false] at hi
    rcases hi with e | e
    · subst e
      exact ⟨f1, g, f3, (k3 39 (by omega) (by omega) (by omega) (by omega)).trans c1, z4, (k3 41 (by omega) (by omega) (by omega) (by omega)).trans c3⟩
    · subst e
      exact ⟨f, z3⟩)
  refine ⟨r, h3, F', ?_, R3, z2, ?_, fR⟩
  · unfold f_X12_gather_e
    rw [mh_nm_eq, y1]
    unfold f_X12_gather_b29
    rw [p2, Option.bind_some, mh_nm_eq, z7]
  · rcases z6 with ⟨a1, a2, a3, a4⟩ | ⟨a1, a2⟩
    · exact Or.inl ⟨a1, a2, a3, f, z3, a4⟩
    · exact Or.inr ⟨a1, a2⟩
end MhModelP
