/-! a purse gets or gives so many of a value -/
def mh_ic (ns : List Nat) (p k : Nat) : List Nat := ns.take p ++ k :: ns.drop p
def mh_ad (c n : List Nat) (v k : Nat) : Option (List Nat × List Nat) :=
  if mh_hd c (nI v) = true then (if n.getD (mh_pf c (nI v)) 0 + k ≤ 20 then some (c, n.set (mh_pf c (nI v)) (n.getD (mh_pf c (nI v)) 0 + k)) else none) else (if c.length = 12 then none else some (mh_ins c v, mh_ic n (mh_pf c (nI v)) k))
def mh_sb (c n : List Nat) (v k : Nat) : List Nat := n.set (mh_pf c (nI v)) (n.getD (mh_pf c (nI v)) 0 - k)
theorem mh_ic_len {ns : List Nat} {p k : Nat} (hp : p ≤ ns.length) : (mh_ic ns p k).length = ns.length + 1 := by
  unfold mh_ic
  rw [List.length_append, List.length_cons, List.length_take, List.length_drop]
  omega
theorem mh_ic_get {ns : List Nat} {p k i : Nat} (hp : p ≤ ns.length) : (mh_ic ns p k).getD i 0 = if i < p then ns.getD i 0 else if i = p then k else ns.getD (i - 1) 0 := by
  unfold mh_ic
  have hl : (ns.take p).length = p := by rw [List.length_take]; omega
  rw [List.getD_eq_getElem?_getD]
  by_cases h1 : i < p
  · rw [if_pos h1, List.getElem?_append_left (by omega), List.getElem?_take_of_lt h1, ← List.getD_eq_getElem?_getD]
  · rw [if_neg h1, List.getElem?_append_right (by omega), hl]
    by_cases h2 : i = p
    · rw [if_pos h2, h2, Nat.sub_self]; rfl
    · rw [if_neg h2, show i - p = (i - p - 1) + 1 by omega, List.getElem?_cons_succ, List.getElem?_drop, show p + (i - p - 1) = i - 1 by omega, ← List.getD_eq_getElem?_getD]
theorem mh_hd_pf {c : List Nat} {x : Int32} (h : mh_hd c x = true) : mh_pf c x < c.length := by
  simp only [mh_hd, decide_eq_true_eq] at h
  exact h.1
theorem mh_getD_set {l : List Nat} {i j x : Nat} (hi : i < l.length) : (l.set i x).getD j 0 = if j = i then x else l.getD j 0 := by
  rw [List.getD_eq_getElem?_getD, List.getElem?_set]
  by_cases h : i = j
  · rw [if_pos h, if_pos (by omega), if_pos h.symm]; rfl
  · rw [if_neg h, if_neg (fun q => h q.symm), ← List.getD_eq_getElem?_getD]
section MhAlter
variable {h : mh_H} {o a v t : Nat} {f g : Nat → Int32} {c n : List Nat}
/-- the last step: so many more at a place -/
theorem mh_alter_end (ho : h o = some (.inr (7, [.ref a, .ref t]))) (ht : h t = some (.inl (0, 12, .inl g))) {p m : Nat} {by' : Int32} (hp : p < 12) (hm : g p + by' = nI m) (hm2 : m < 2 ^ 31) :
    f_X7_alter_b79 o by' (nI p) h = some ((if m ≤ 20 then 1 else 0), mh_up h t (.inl (0, 12, .inl (upd g p (nI m))))) := by
  have n1 : o ≠ t := mh_apt ho ht (fun q => by cases q)
  unfold f_X7_alter_b79
  rw [mh_gR_eq (k := 1) ho rfl, Option.bind_some, mh_aI_eq ht hp (by omega), Option.bind_some, hm, mh_sI_eq ht hp (by omega), Option.bind_some, mh_gR_eq (k := 1) (show (mh_up h t (.inl (0, 12, .inl (upd g p (nI m))))) o = some (.inr (7, [.ref a, .ref t])) by rw [mh_up_ne n1]; exact ho) rfl, Option.bind_some, mh_aI_eq (mh_up_eq _ _ _) hp (by omega), Option.bind_some, pk_us]
  by_cases hq : m ≤ 20
  · rw [if_neg (fun q => absurd ((mh_ltl (a := 20) 20 rfl (by omega) hm2).mp q) (by omega)), if_pos hq]
    rfl
  · rw [if_pos ((mh_ltl (a := 20) 20 rfl (by omega) hm2).mpr (by omega)), if_neg hq]
    rfl
theorem mh_Pu.setp (hp : mh_Pu h o a v t f g c n) (d : v ≠ t) {p m : Nat} (hpl : p < c.length) : mh_Pu (mh_up h t (.inl (0, 12, .inl (upd g p (nI m))))) o a v t f (upd g p (nI m)) c (n.set p m) := by
  refine ⟨by rw [mh_up_ne (mh_apt hp.1 hp.2.2.1 (fun q => by cases q))]; exact hp.1, hp.2.1.keep (mh_up_ne (mh_apt hp.2.1.1 hp.2.2.1 (fun q => by cases q))) (mh_up_ne d), mh_up_eq _ _ _, by rw [List.length_set]; exact hp.2.2.2.1, fun i hi => ?_⟩
  rw [mh_getD_set (by rw [hp.2.2.2.1]; exact hpl)]
  by_cases hip : i = p
  · rw [if_pos hip, hip, pk_us]
  · rw [if_neg hip, pk_un hip]; exact hp.2.2.2.2 i hi
theorem mh_alter_held (hp : mh_Pu h o a v t f g c n) {x : Nat} {by' : Int32} (hh : mh_hd c (nI x) = true) : f_X7_alter_e o (nI x) by' h = f_X7_alter_b79 o by' (nI (mh_pf c (nI x))) h := by
  unfold f_X7_alter_e
  rw [mh_gR_eq (k := 0) hp.1 rfl, Option.bind_some, mh_cal_eq hp.2.1.1, mh_b2_eq (mh_fx1_placeFor hp.2.1 _), mh_gR_eq (k := 0) hp.1 rfl, Option.bind_some, mh_cal_eq hp.2.1.1, mh_b2_eq (mh_fx1_holds hp.2.1 _), if_pos hh, if_neg (by decide)]
theorem mh_fx7_take (hp : mh_Pu h o a v t f g c n) (d : v ≠ t) {x k : Nat} (hh : mh_hd c (nI x) = true) (hk : k ≤ n.getD (mh_pf c (nI x)) 0) (hb : n.getD (mh_pf c (nI x)) 0 ≤ 20) :
    ∃ h' g', f_X7_alter_e o (nI x) (-(nI k)) h = some (1, h') ∧ mh_Pu h' o a v t f g' c (mh_sb c n x k) ∧ mh_fr [t] h h' := by
  have hpl := mh_hd_pf hh
  have hl := hp.2.1.2.2.1
  have em : g (mh_pf c (nI x)) + -(nI k) = nI (n.getD (mh_pf c (nI x)) 0 - k) := by
    rw [hp.2.2.2.2 _ hpl, ← Int32.sub_eq_add_neg, pk_sub hk]
  have e := mh_alter_end hp.1 hp.2.2.1 (p := mh_pf c (nI x)) (by omega) em (by omega)
  rw [if_pos (by omega)] at e
  exact ⟨_, _, by rw [mh_alter_held hp hh]; exact e, hp.setp d hpl, mh_fr.up List.mem_cons_self⟩
theorem mh_fx7_give (hp : mh_Pu h o a v t f g c n) (d : v ≠ t) (hb : ∀ j, n.getD j 0 ≤ 40) {x k : Nat} (hx : x < 2 ^ 31) (hk : k ≤ 20) :
    ∃ r : Int32 × mh_H, f_X7_alter_e o (nI x) (nI k) h = some r ∧ (∃ f' g' c' n', mh_Pu r.2 o a v t f' g' c' n' ∧ ((r.1 = 1 ∧ mh_ad c n x k = some (c', n')) ∨ (r.1 = 0 ∧ mh_ad c n x k = none))) ∧ mh_fr [a, v, t] h r.2 := by
  have hl := hp.2.1.2.2.1
  unfold mh_ad
  by_cases hh : mh_hd c (nI x) = true
  · have hpl := mh_hd_pf hh
    have hbp := hb (mh_pf c (nI x))
    have em : g (mh_pf c (nI x)) + nI k = nI (n.getD (mh_pf c (nI x)) 0 + k) := by rw [hp.2.2.2.2 _ hpl, nI_add]
    have e := mh_alter_end hp.1 hp.2.2.1 (p := mh_pf c (nI x)) (by omega) em (by omega)
    rw [if_pos hh, mh_alter_held hp hh, e]
    refine ⟨_, rfl, ⟨f, _, c, _, hp.setp d hpl, ?_⟩, mh_fr.up (by simp)⟩
    by_cases hq : n.getD (mh_pf c (nI x)) 0 + k ≤ 20
    · rw [if_pos hq, if_pos hq]; exact Or.inl ⟨rfl, rfl⟩
    · rw [if_neg hq, if_neg hq]; exact Or.inr ⟨rfl, rfl⟩
  · have hh' : mh_hd c (nI x) = false := by simpa using hh
    rw [if_neg hh]
    have start : f_X7_alter_e o (nI x) (nI k) h = mh_b2 (mh_cal h a 1 (f_X1_insert_e a (nI x) h)) fun v21 h20 => if v21 = 0 then mh_rz (0 : Int32) h20 else (mh_gR h20 o 7 0).bind fun a22 => mh_b2 (mh_cal h20 a22 1 (f_X1_count_e a22 h20)) fun v24 h23 => mh_nm (v24 - (1 : Int32)) fun v25 => f_X7_alter_b44 (f_X7_alter_b79) mh_fu o (nI k) (nI (mh_pf c (nI x))) v25 h23 := by
      unfold f_X7_alter_e
      rw [mh_gR_eq (k := 0) hp.1 rfl, Option.bind_some, mh_cal_eq hp.2.1.1, mh_b2_eq (mh_fx1_placeFor hp.2.1 _), mh_gR_eq (k := 0) hp.1 rfl, Option.bind_some, mh_cal_eq hp.2.1.1, mh_b2_eq (mh_fx1_holds hp.2.1 _), if_neg hh, if_pos rfl, mh_gR_eq (k := 0) hp.1 rfl, Option.bind_some]
    by_cases hf : c.length = 12
    · rw [if_pos hf, start, mh_cal_eq hp.2.1.1, mh_b2_eq (mh_fx1_insert_full hp.2.1 hf _), if_pos rfl]
      exact ⟨_, rfl, ⟨f, g, c, n, hp, Or.inr ⟨rfl, rfl⟩⟩, mh_fr.rfl⟩
    · rw [if_neg hf]
      have ple := mh_pf_le c (nI x)
      obtain ⟨h1, f1, y1, y2, y3⟩ := mh_fx1_insert hp.2.1 hp.2.1.ne x (by omega) hh'
      have n1 : o ≠ a := mh_apt hp.1 hp.2.1.1 (fun q => by cases q)
      have n2 : o ≠ v := mh_apt hp.1 hp.2.1.2.1 (fun q => by cases q)
      have n3 : t ≠ a := mh_apt hp.2.2.1 hp.2.1.1 (fun q => by cases q)
      have n4 : o ≠ t := mh_apt hp.1 hp.2.2.1 (fun q => by cases q)
      have w0 : h1 o = some (.inr (7, [.ref a, .ref t])) := (y3 o n1 n2).trans hp.1
      have wt : h1 t = some (.inl (0, 12, .inl g)) := (y3 t n3 d.symm).trans hp.2.2.1
      have fr1 : mh_fr [a, v, t] h h1 := fun b hb => y3 b (fun q => hb (by simp [q])) (fun q => hb (by simp [q]))
      have key := mh_wh (fun m (q : Nat × (Nat → Int32)) => f_X7_alter_b44 (f_X7_alter_b79) m o (nI k) (nI (mh_pf c (nI x))) (nI q.1) (mh_up h1 t (.inl (0, 12, .inl q.2))))
        (fun (f : Nat → Int32) => f_X7_alter_b72 (f_X7_alter_b79) o (nI k) (nI (mh_pf c (nI x))) (mh_up h1 t (.inl (0, 12, .inl f))))
        (fun q => mh_pf c (nI x) ≤ q.1 ∧ q.1 ≤ c.length ∧ (∀ j, j ≤ q.1 → q.2 j = g j) ∧ ∀ j, q.1 < j → j ≤ c.length → q.2 j = g (j - 1)) (fun q => q.1)
        (fun f => (∀ j, j ≤ mh_pf c (nI x) → f j = g j) ∧ ∀ j, mh_pf c (nI x) < j → j ≤ c.length → f j = g (j - 1))
        (fun m q hq => by
          obtain ⟨i, F⟩ := q
          obtain ⟨q1, q2, q3, q4⟩ := hq
          have q1 : mh_pf c (nI x) ≤ i := q1
          have q2 : i ≤ c.length := q2
          have q3 : ∀ j, j ≤ i → F j = g j := q3
          have q4 : ∀ j, i < j → j ≤ c.length → F j = g (j - 1) := q4
          show (∃ s', _ ∧ _ ∧ f_X7_alter_b44 (f_X7_alter_b79) (m + 1) o (nI k) (nI (mh_pf c (nI x))) (nI i) (mh_up h1 t (.inl (0, 12, .inl F))) = _) ∨ ∃ r, _ ∧ f_X7_alter_b44 (f_X7_alter_b79) (m + 1) o (nI k) (nI (mh_pf c (nI x))) (nI i) (mh_up h1 t (.inl (0, 12, .inl F))) = _
          by_cases hi : i ≤ mh_pf c (nI x)
          · right
            have e : i = mh_pf c (nI x) := by omega
            refine ⟨F, ⟨by rw [← e]; exact q3, by rw [← e]; exact q4⟩, ?_⟩
            rw [f_X7_alter_b44, if_pos ((nI_leI (by omega) (by omega)).mpr hi)]
          · left
            have w1 : (mh_up h1 t (.inl (0, 12, .inl F))) o = some (.inr (7, [.ref a, .ref t])) := by rw [mh_up_ne n4]; exact w0
            have ei : nI i - (1 : Int32) = nI (i - 1) := pk_sub (b := 1) (by omega)
            have ed : nI i + Int32.ofInt (-1) = nI (i - 1) := by rw [mh_decN, ei]
            refine ⟨(i - 1, upd F i (g (i - 1))), ⟨by show mh_pf c (nI x) ≤ i - 1; omega, by show i - 1 ≤ c.length; omega, fun j hj => ?_, fun j j1 j2 => ?_⟩, by show i - 1 < i; omega, ?_⟩
            · have hj : j ≤ i - 1 := hj
              show upd F i (g (i - 1)) j = g j
              rw [pk_un (by omega)]; exact q3 j (by omega)
            · have j1 : i - 1 < j := j1
              show upd F i (g (i - 1)) j = g (j - 1)
              by_cases hji : j = i
              · rw [hji, pk_us]
              · rw [pk_un hji]; exact q4 j (by omega) j2
            · rw [f_X7_alter_b44, if_neg (fun q => hi ((nI_leI (by omega) (by omega)).mp q)), mh_gR_eq (k := 1) w1 rfl, Option.bind_some, Option.bind_some, ei, mh_aI_eq (mh_up_eq _ _ _) (show i - 1 < 12 by omega) (by omega), Option.bind_some, q3 (i - 1) (by omega), mh_sI_eq (mh_up_eq _ _ _) (show i < 12 by omega) (by omega), Option.bind_some, mh_nm_eq, ed, mh_up_up])
        12 mh_fu (c.length, g) (by show c.length ≤ 12; omega) ⟨ple, Nat.le_refl _, fun j _ => rfl, fun j j1 j2 => absurd j2 (by show ¬ j ≤ c.length; have j1 : c.length < j := j1; omega)⟩ (mh_fuel _ (by omega))
      obtain ⟨F, ⟨z1, z2⟩, z3⟩ := key
      have z3 : f_X7_alter_b44 (f_X7_alter_b79) mh_fu o (nI k) (nI (mh_pf c (nI x))) (nI c.length) (mh_up h1 t (.inl (0, 12, .inl g))) = _ := z3
      rw [mh_up_id wt] at z3
      have w1 : (mh_up h1 t (.inl (0, 12, .inl F))) o = some (.inr (7, [.ref a, .ref t])) := by rw [mh_up_ne n4]; exact w0
      have w2 : (mh_up h1 t (.inl (0, 12, .inl (upd F (mh_pf c (nI x)) 0)))) o = some (.inr (7, [.ref a, .ref t])) := by rw [mh_up_ne n4]; exact w0
      have e := mh_alter_end (by' := nI k) w2 (mh_up_eq _ _ _) (p := mh_pf c (nI x)) (m := k) (by omega) (by rw [pk_us]; exact Int32.zero_add _) (by omega)
      rw [if_pos hk, mh_up_up] at e
      have el : nI (mh_ins c x).length - (1 : Int32) = nI c.length := by rw [mh_ins_len, nI_pred]
      have run : f_X7_alter_e o (nI x) (nI k) h = some (1, mh_up h1 t (.inl (0, 12, .inl (upd (upd F (mh_pf c (nI x)) 0) (mh_pf c (nI x)) (nI k))))) := by
        rw [start, mh_cal_eq hp.2.1.1, mh_b2_eq y1, if_neg (by decide), mh_gR_eq (k := 0) w0 rfl, Option.bind_some, mh_cal_eq y2.1, mh_b2_eq (mh_fx1_count y2), mh_nm_eq, el, z3]
        unfold f_X7_alter_b72
        rw [mh_gR_eq (k := 1) w1 rfl, Option.bind_some, mh_sI_eq (mh_up_eq _ _ _) (by omega) (by omega), Option.bind_some, mh_up_up]
        exact e
      refine ⟨_, run, ⟨f1, _, mh_ins c x, mh_ic n (mh_pf c (nI x)) k, ⟨(mh_up_ne n4).trans w0, y2.keep (mh_up_ne n3.symm) (mh_up_ne d), mh_up_eq _ _ _, ?_, fun i hi => ?_⟩, Or.inl ⟨rfl, rfl⟩⟩, fr1.trans (mh_fr.up (by simp))⟩
      · rw [mh_ic_len (by rw [hp.2.2.2.1]; exact ple), mh_ins_len, hp.2.2.2.1]
      · rw [mh_ins_len] at hi
        rw [mh_ic_get (by rw [hp.2.2.2.1]; exact ple)]
        by_cases i1 : i = mh_pf c (nI x)
        · rw [if_neg (by omega), if_pos i1, i1, pk_us]
        · rw [pk_un i1, pk_un i1]
          by_cases i2 : i < mh_pf c (nI x)
          · rw [if_pos i2, z1 i (by omega)]; exact hp.2.2.2.2 i (by omega)
          · rw [if_neg i2, if_neg i1, z2 i (by omega) (by omega)]; exact hp.2.2.2.2 (i - 1) (by omega)
end MhAlter
