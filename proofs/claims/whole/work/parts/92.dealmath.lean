theorem mh_dot_apps : ∀ (a a' b b' : List Nat), a.length = a'.length → mh_dot (a ++ b) (a' ++ b') = mh_dot a a' + mh_dot b b' := by
  intro a
  induction a with
  | nil =>
    intro a' b b' h
    cases a' with
    | nil => show mh_dot b b' = 0 + mh_dot b b'; omega
    | cons x a' => exact absurd h (by simp)
  | cons x a ih =>
    intro a' b b' h
    cases a' with
    | nil => exact absurd h (by simp)
    | cons y a' =>
      show y * x + mh_dot (a ++ b) (a' ++ b') = y * x + mh_dot a a' + mh_dot b b'
      rw [ih a' b b' (by simpa using h)]
      omega
/-- what a purse that gets keeps -/
def mh_kp (c n c' n' : List Nat) : Prop := ∀ x, x < 2 ^ 31 → mh_hd c (nI x) = true → mh_hd c' (nI x) = true ∧ n.getD (mh_pf c (nI x)) 0 ≤ n'.getD (mh_pf c' (nI x)) 0
theorem mh_ad_ok {c n c' n' : List Nat} {v k : Nat} (h : mh_ad c n v k = some (c', n')) (hm : mh_ms c) (hl : n.length = c.length) (h1 : 1 ≤ v) (h2 : v ≤ 300) : mh_ms c' ∧ n'.length = c'.length ∧ mh_dot c' n' = mh_dot c n + k * v ∧ mh_kp c n c' n' := by
  unfold mh_ad at h
  by_cases hh : mh_hd c (nI v) = true
  · rw [if_pos hh] at h
    by_cases hq : n.getD (mh_pf c (nI v)) 0 + k ≤ 20
    · rw [if_pos hq] at h
      cases h
      have hi := mh_hd_pf hh
      have hv : c.getD (mh_pf c (nI v)) 0 = v := (nI_eq (by have := hm.1.le (mh_pf c (nI v)); omega) (by omega)).mp (mh_hd_val hh)
      have ds := mh_dot_set c n (mh_pf c (nI v)) (n.getD (mh_pf c (nI v)) 0 + k) hi hl
      rw [hv, Nat.add_mul] at ds
      refine ⟨hm, by rw [List.length_set]; exact hl, by omega, fun x hx q => ⟨q, ?_⟩⟩
      rw [mh_getD_set (by rw [hl]; exact hi)]
      split
      · rename_i e; rw [e]; omega
      · exact Nat.le_refl _
    · rw [if_neg hq] at h; cases h
  · rw [if_neg hh] at h
    by_cases hf : c.length = 12
    · rw [if_pos hf] at h; cases h
    · rw [if_neg hf] at h
      cases h
      have ple := mh_pf_le c (nI v)
      have hl12 := hm.1.1
      have hm' := mh_ins_ms hm h1 h2 (by omega) (fun q => hh ((mh_hd_iff hm (by omega)).mpr q))
      refine ⟨hm', by rw [mh_ic_len (by omega), mh_ins_len, hl], ?_, fun x hx q => ?_⟩
      · unfold mh_ins mh_ic
        rw [mh_dot_apps _ _ _ _ (by rw [List.length_take, List.length_take, hl])]
        show mh_dot (c.take (mh_pf c (nI v))) (n.take (mh_pf c (nI v))) + (k * v + mh_dot (c.drop (mh_pf c (nI v))) (n.drop (mh_pf c (nI v)))) = _
        have := mh_dot_apps (c.take (mh_pf c (nI v))) (n.take (mh_pf c (nI v))) (c.drop (mh_pf c (nI v))) (n.drop (mh_pf c (nI v))) (by rw [List.length_take, List.length_take, hl])
        rw [List.take_append_drop, List.take_append_drop] at this
        omega
      · have hi := mh_hd_pf q
        have hv : c.getD (mh_pf c (nI x)) 0 = x := (nI_eq (by have := hm.1.le (mh_pf c (nI x)); omega) (by omega)).mp (mh_hd_val q)
        have hil := mh_ins_len c v
        by_cases hp : mh_pf c (nI x) < mh_pf c (nI v)
        · have g : (mh_ins c v).getD (mh_pf c (nI x)) 0 = x := by rw [mh_ins_get, if_pos hp, hv]
          have pe : mh_pf (mh_ins c v) (nI x) = mh_pf c (nI x) := by
            have := mh_pf_get hm' (i := mh_pf c (nI x)) (by omega)
            rw [g] at this
            exact this
          refine ⟨(mh_hd_iff hm' hx).mpr (by rw [← g]; exact mh_get_mem (by omega)), ?_⟩
          rw [pe, mh_ic_get (by omega), if_pos hp]
          exact Nat.le_refl _
        · have g : (mh_ins c v).getD (mh_pf c (nI x) + 1) 0 = x := by rw [mh_ins_get, if_neg (by omega), if_neg (by omega), Nat.add_sub_cancel, hv]
          have pe : mh_pf (mh_ins c v) (nI x) = mh_pf c (nI x) + 1 := by
            have := mh_pf_get hm' (i := mh_pf c (nI x) + 1) (by omega)
            rw [g] at this
            exact this
          refine ⟨(mh_hd_iff hm' hx).mpr (by rw [← g]; exact mh_get_mem (by omega)), ?_⟩
          rw [pe, mh_ic_get (by omega), if_neg (by omega), if_neg (by omega), Nat.add_sub_cancel]
          exact Nat.le_refl _
theorem mh_sb_ok {c n : List Nat} {v k : Nat} (hm : mh_ms c) (hl : n.length = c.length) (hv2 : v ≤ 300) (hh : mh_hd c (nI v) = true) (hk : k ≤ n.getD (mh_pf c (nI v)) 0) : (mh_sb c n v k).length = c.length ∧ mh_dot c (mh_sb c n v k) + k * v = mh_dot c n := by
  have hi := mh_hd_pf hh
  have hv : c.getD (mh_pf c (nI v)) 0 = v := (nI_eq (by have := hm.1.le (mh_pf c (nI v)); omega) (by omega)).mp (mh_hd_val hh)
  have ds := mh_dot_set c n (mh_pf c (nI v)) (n.getD (mh_pf c (nI v)) 0 - k) hi hl
  have e : n.getD (mh_pf c (nI v)) 0 * v = (n.getD (mh_pf c (nI v)) 0 - k) * v + k * v := by rw [← Nat.add_mul, Nat.sub_add_cancel hk]
  rw [hv] at ds
  unfold mh_sb
  exact ⟨by rw [List.length_set]; exact hl, by omega⟩
theorem mh_mv_ok : ∀ (cs ks cF nF cT nT n1 c2 n2 : List Nat), mh_mv cs ks cF nF cT nT = some (n1, c2, n2) → mh_ms cs → mh_ms cF → nF.length = cF.length → mh_ms cT → nT.length = cT.length → mh_cgv cs ks cF nF 0 → n1.length = cF.length ∧ mh_dot cF n1 + mh_dot cs ks = mh_dot cF nF ∧ mh_ms c2 ∧ n2.length = c2.length ∧ mh_dot c2 n2 = mh_dot cT nT + mh_dot cs ks ∧ mh_kp cT nT c2 n2 := by
  intro cs
  induction cs with
  | nil =>
    intro ks cF nF cT nT n1 c2 n2 h _ _ hl hT hlT _
    rw [mh_mv] at h
    cases h
    have e : mh_dot [] ks = 0 := by cases ks <;> rfl
    rw [e]
    exact ⟨hl, rfl, hT, hlT, rfl, fun x _ q => ⟨q, Nat.le_refl _⟩⟩
  | cons c cs ih =>
    intro ks cF nF cT nT n1 c2 n2 h hm hF hl hT hlT hg
    have hc := hm.1.2 c List.mem_cons_self
    have hm' : mh_ms cs := mh_ms_sub hm (List.sublist_cons_self c cs)
    cases ks with
    | nil =>
      rw [mh_mv] at h
      cases h
      exact ⟨hl, rfl, hT, hlT, rfl, fun x _ q => ⟨q, Nat.le_refl _⟩⟩
    | cons k ks =>
      by_cases hk : k = 0
      · rw [mh_mv_0 hk] at h
        have a := ih ks cF nF cT nT n1 c2 n2 h hm' hF hl hT hlT (fun j _ h2 h3 => hg (j + 1) (Nat.zero_le _) (by simpa using h2) h3)
        have e : mh_dot (c :: cs) (k :: ks) = mh_dot cs ks := by rw [mh_dot, hk]; omega
        rw [e]
        exact a
      · obtain ⟨g1, g2⟩ := hg 0 (Nat.le_refl _) (by simp) (show 0 < k by omega)
        have g1 : mh_hd cF (nI c) = true := g1
        have g2 : k ≤ nF.getD (mh_pf cF (nI c)) 0 := g2
        cases ea : mh_ad cT nT c k with
        | none => rw [mh_mv_n hk ea] at h; cases h
        | some v =>
          obtain ⟨c', n'⟩ := v
          rw [mh_mv_s hk ea] at h
          obtain ⟨a1, a2, a3, a4⟩ := mh_ad_ok ea hT hlT hc.1 hc.2
          obtain ⟨b1, b2⟩ := mh_sb_ok hF hl hc.2 g1 g2
          have hg' := mh_cgv_s (i := 0) hm hl hg (by simp) (show 0 < k by omega)
          obtain ⟨d1, d2, d3, d4, d5, d6⟩ := ih ks cF (mh_sb cF nF c k) c' n' n1 c2 n2 h hm' hF b1 a1 a2 (fun j _ h2 h3 => hg' (j + 1) (by omega) (by simpa using h2) h3)
          rw [mh_dot]
          exact ⟨d1, by omega, d3, d4, by omega, fun x hx q => ⟨(d6 x hx (a4 x hx q).1).1, Nat.le_trans (a4 x hx q).2 (d6 x hx (a4 x hx q).1).2⟩⟩
/-- a deal: what both purses have after -/
def mh_dl (c1 n1 c2 n2 ks ms : List Nat) : Option ((List Nat × List Nat) × (List Nat × List Nat)) := (mh_mv c1 ks c1 n1 c2 n2).bind fun u => (mh_mv c2 ms u.2.1 u.2.2 c1 u.1).bind fun v => if mh_dot u.2.1 v.1 ≤ 20000 then some ((v.2.1, v.2.2), (u.2.1, v.1)) else none
