/-- what deal does, by value -/
theorem mh_sum_set : ∀ (l : List Nat) (i k : Nat), i < l.length → (l.set i k).sum + l.getD i 0 = l.sum + k := by
  intro l
  induction l with
  | nil => intro i k hi; exact absurd hi (Nat.not_lt_zero _)
  | cons a l ih =>
    intro i k hi
    cases i with
    | zero => show (k :: l).sum + a = (a :: l).sum + k; rw [List.sum_cons, List.sum_cons]; omega
    | succ i =>
      have := ih i k (Nat.lt_of_succ_lt_succ hi)
      show (a :: l.set i k).sum + l.getD i 0 = (a :: l).sum + k
      rw [List.sum_cons, List.sum_cons]
      omega
theorem mh_cg_both {c1 n1 c2 n2 ks ms : List Nat} {s i j : Nat} (h : mh_cg c1 n1 c2 n2 s ks ms) (hi : i < c1.length) (hj : j < c2.length) (e : c1.getD i 0 = c2.getD j 0) (hk : 0 < ks.getD i 0) : ms.getD j 0 = 0 := by
  obtain ⟨⟨⟨a1, a2⟩, a3⟩, ⟨⟨b1, b2⟩, b3⟩, m⟩ := h
  by_cases z : ms.getD j 0 = 0
  · exact z
  exfalso
  obtain ⟨k, ek⟩ : ∃ k, ks.getD i 0 = k + 1 := ⟨ks.getD i 0 - 1, by omega⟩
  obtain ⟨l, el⟩ : ∃ l, ms.getD j 0 = l + 1 := ⟨ms.getD j 0 - 1, by omega⟩
  have d1 := mh_dot_set c1 ks i k hi a1
  have d2 := mh_dot_set c2 ms j l hj b1
  have s1 := mh_sum_set ks i k (by omega)
  have s2 := mh_sum_set ms j l (by omega)
  have q1 := a2 i hi
  have q2 := b2 j hj
  rw [ek, Nat.succ_mul] at d1
  rw [el, Nat.succ_mul] at d2
  have := m (ks.set i k) (ms.set j l) ⟨⟨by rw [List.length_set]; exact a1, fun t ht => by
    rw [mh_getD_set (by omega)]
    split
    · next z => rw [z]; omega
    · exact a2 t ht⟩, by omega⟩ ⟨⟨by rw [List.length_set]; exact b1, fun t ht => by
    rw [mh_getD_set (by omega)]
    split
    · next z => rw [z]; omega
    · exact b2 t ht⟩, rfl⟩
  omega
theorem mh_ct_mem {c n : List Nat} {x : Nat} (h : 0 < mh_ct c n x) : x ∈ c := by
  by_cases z : x ∈ c
  · exact z
  · rw [mh_ct_no z] at h; exact absurd h (Nat.lt_irrefl _)
theorem mh_ct_20 {c n : List Nat} (h : ∀ i, n.getD i 0 ≤ 20) (x : Nat) : mh_ct c n x ≤ 20 := by
  unfold mh_ct
  split
  · exact h _
  · omega
theorem mh_own {c n ks : List Nat} (hm : mh_ms c) (hn : n.length = c.length) (hk : ks.length = c.length) : (mh_sbs c ks c n).length = c.length ∧ (∀ x, mh_ct c (mh_sbs c ks c n) x = mh_ct c n x - mh_ct c ks x) ∧ ∀ i, i < c.length → (mh_sbs c ks c n).getD i 0 = n.getD i 0 - ks.getD i 0 := by
  obtain ⟨a, b⟩ := mh_sbs_ok c ks c n hk hm hm hn (fun x hx => mh_ct_mem hx)
  exact ⟨a, b, fun i hi => by
    have := b (c.getD i 0)
    rwa [mh_ct_get hm hi, mh_ct_get hm hi, mh_ct_get hm hi] at this⟩
theorem mh_gs_20 {cs ks : List Nat} {P : List Nat × List Nat} (hk : ks.length = cs.length) (hm : mh_ms cs) (hP : mh_ms P.1) (hl : P.2.length = P.1.length) (hf : mh_fit cs ks P.1 P.2) (h1 : ∀ i, P.2.getD i 0 ≤ 20) (h2 : ∀ i, ks.getD i 0 ≤ 20) (i : Nat) : (mh_gs cs ks P).2.getD i 0 ≤ 20 := by
  obtain ⟨a1, a2, a3, a4⟩ := mh_gs_ok cs ks P hk hm hP hl hf.2
  by_cases hi : i < (mh_gs cs ks P).1.length
  · rw [← mh_ct_get a1 hi, a4]
    obtain ⟨x, ex⟩ : ∃ x, x = (mh_gs cs ks P).1.getD i 0 := ⟨_, rfl⟩
    rw [← ex]
    have t1 := mh_ct_20 (c := P.1) h1 x
    have t2 := mh_ct_20 (c := cs) h2 x
    by_cases z : mh_ct cs ks x = 0
    · omega
    · obtain ⟨j, j1, j2⟩ := mh_mem_get (mh_ct_mem (show 0 < mh_ct cs ks x by omega))
      have e : mh_ct cs ks x = ks.getD j 0 := by rw [← j2, mh_ct_get hm j1]
      by_cases y : x ∈ P.1
      · have := hf.1 j j1 (by omega) (by rw [j2]; exact y)
        rw [j2] at this
        omega
      · rw [mh_ct_no y]; omega
  · rw [List.getD_eq_getElem?_getD, List.getElem?_eq_none (by omega)]
    exact Nat.zero_le _
theorem mh_Sv_g {n ks : List Nat} {j : Nat} (hb : ∀ i, n.getD i 0 ≤ 20) (h : mh_Sv n j ks) (i : Nat) : ks.getD i 0 ≤ 20 := by
  by_cases hi : i < j
  · exact Nat.le_trans (h.2 i hi) (hb i)
  · rw [List.getD_eq_getElem?_getD, List.getElem?_eq_none (by have := h.1; omega)]
    exact Nat.zero_le _
theorem mh_fit_B {c1 n1 c2 n2 ks ms : List Nat} {s : Nat} (z1 : mh_pz c1 n1) (z2 : mh_pz c2 n2) (h : mh_cg c1 n1 c2 n2 s ks ms) : mh_fit c1 ks c2 (mh_sbs c2 ms c2 n2) ↔ mh_fit c1 ks c2 n2 := by
  obtain ⟨o1, o2, o3⟩ := mh_own z2.1 z2.2.1 h.2.1.1.1
  have key : ∀ i, i < c1.length → 0 < ks.getD i 0 → c1.getD i 0 ∈ c2 → mh_ct c2 (mh_sbs c2 ms c2 n2) (c1.getD i 0) = mh_ct c2 n2 (c1.getD i 0) := fun i hi hk hc => by
    obtain ⟨j, j1, j2⟩ := mh_mem_get hc
    have := mh_cg_both h hi j1 j2.symm hk
    rw [o2, ← j2, mh_ct_get (n := ms) z2.1 j1, this]
    omega
  constructor
  · intro hf
    exact ⟨fun i hi hk hc => by rw [← key i hi hk hc]; exact hf.1 i hi hk hc, hf.2⟩
  · intro hf
    exact ⟨fun i hi hk hc => by rw [key i hi hk hc]; exact hf.1 i hi hk hc, hf.2⟩
theorem mh_deal_m {c1 n1 c2 n2 ks ms : List Nat} {s : Nat} (z1 : mh_pz c1 n1) (z2 : mh_pz c2 n2) (h : mh_cg c1 n1 c2 n2 s ks ms) : (¬ mh_fit c2 ms c1 (mh_sbs c1 ks c1 n1) ∨ ¬ mh_fit c1 ks c2 (mh_sbs c2 ms c2 n2) ∨ 20000 < mh_dot c2 n2 + s → mh_dl c1 n1 c2 n2 ks ms = none) ∧ (mh_fit c2 ms c1 (mh_sbs c1 ks c1 n1) → mh_fit c1 ks c2 (mh_sbs c2 ms c2 n2) → mh_dot c2 n2 + s ≤ 20000 → mh_dl c1 n1 c2 n2 ks ms = some (((mh_gs c2 ms (c1, mh_sbs c1 ks c1 n1)).1, (mh_gs c2 ms (c1, mh_sbs c1 ks c1 n1)).2), ((mh_gs c1 ks (c2, mh_sbs c2 ms c2 n2)).1, (mh_gs c1 ks (c2, mh_sbs c2 ms c2 n2)).2)) ∧ mh_pz (mh_gs c2 ms (c1, mh_sbs c1 ks c1 n1)).1 (mh_gs c2 ms (c1, mh_sbs c1 ks c1 n1)).2 ∧ mh_pz (mh_gs c1 ks (c2, mh_sbs c2 ms c2 n2)).1 (mh_gs c1 ks (c2, mh_sbs c2 ms c2 n2)).2) := by
  obtain ⟨o1, o2, o3⟩ := mh_own z2.1 z2.2.1 h.2.1.1.1
  obtain ⟨p1, p2, p3⟩ := mh_own z1.1 z1.2.1 h.1.1.1
  have hB := mh_fit_B z1 z2 h
  have kl := h.1.1.1
  have ml := h.2.1.1.1
  have kd : mh_dot c1 ks = s + mh_dot c2 ms := h.1.2
  obtain ⟨A, eA⟩ : ∃ A, A = mh_sbs c1 ks c1 n1 := ⟨_, rfl⟩
  obtain ⟨B, eB⟩ : ∃ B, B = mh_sbs c2 ms c2 n2 := ⟨_, rfl⟩
  rw [← eA] at p1 p2 p3 ⊢
  rw [← eB] at o1 o2 o3 hB ⊢
  have ml20 := mh_Sv_g z2.2.2.1 h.2.1.1
  have kl20 := mh_Sv_g z1.2.2.1 h.1.1
  have A20 : ∀ i, A.getD i 0 ≤ 20 := fun i => by
    by_cases hi : i < c1.length
    · rw [p3 i hi]; have := z1.2.2.1 i; omega
    · rw [List.getD_eq_getElem?_getD, List.getElem?_eq_none (by omega)]; exact Nat.zero_le _
  have B20 : ∀ i, B.getD i 0 ≤ 20 := fun i => by
    by_cases hi : i < c2.length
    · rw [o3 i hi]; have := z2.2.2.1 i; omega
    · rw [List.getD_eq_getElem?_getD, List.getElem?_eq_none (by omega)]; exact Nat.zero_le _
  by_cases f1 : mh_fit c1 ks c2 B
  · have f1' := hB.mp f1
    have m1 : mh_mv c1 ks c1 n1 c2 n2 = some (A, (mh_gs c1 ks (c2, n2)).1, (mh_gs c1 ks (c2, n2)).2) := by rw [eA]; exact (mh_mv_fit c1 ks c1 n1 c2 n2 kl z1.1 z2.1 z2.2.1).1 f1'
    obtain ⟨g1, g2, g3, g4⟩ := mh_gs_ok c1 ks (c2, n2) kl z1.1 z2.1 z2.2.1 f1'.2
    obtain ⟨t1, t2, t3, t4, t5, t6⟩ := mh_mv_ok _ _ _ _ _ _ _ _ _ m1 z1.1 z1.1 z1.2.1 z2.1 z2.2.1 (mh_cgv_own z1.1 h.1)
    obtain ⟨u1, u2, u3, u4⟩ := mh_gs_ok c1 ks (c2, B) kl z1.1 z2.1 o1 f1.2
    obtain ⟨G, eG⟩ : ∃ G, G = mh_gs c1 ks (c2, n2) := ⟨_, rfl⟩
    obtain ⟨K, eK⟩ : ∃ K, K = mh_gs c1 ks (c2, B) := ⟨_, rfl⟩
    have K20 := fun i => mh_gs_20 (P := (c2, B)) kl z1.1 z2.1 o1 f1 B20 kl20 i
    rw [← eG] at m1 g1 g2 g3 g4 t3 t4 t5 t6
    rw [← eK] at u1 u2 u3 u4 K20 ⊢
    by_cases f2 : mh_fit c2 ms c1 A
    · have m2 : mh_mv c2 ms G.1 G.2 c1 A = some (mh_sbs c2 ms G.1 G.2, (mh_gs c2 ms (c1, A)).1, (mh_gs c2 ms (c1, A)).2) := (mh_mv_fit c2 ms G.1 G.2 c1 A ml z2.1 z1.1 p1).1 f2
      obtain ⟨v1, v2, v3, v4, v5, v6⟩ := mh_mv_ok _ _ _ _ _ _ _ _ _ m2 z2.1 g1 g2 z1.1 p1 (mh_cgv_kp z2.1 h.2.1 t6)
      obtain ⟨w1, w2⟩ := mh_sbs_ok c2 ms G.1 G.2 ml z2.1 g1 g2 (fun x hx => (g3 x).mpr (Or.inl (mh_ct_mem hx)))
      have H20 := fun i => mh_gs_20 (P := (c1, A)) ml z2.1 z1.1 p1 f2 A20 ml20 i
      have dl := mh_dl_s m1 m2
      obtain ⟨V, eV⟩ : ∃ V, V = mh_sbs c2 ms G.1 G.2 := ⟨_, rfl⟩
      rw [← eV] at v1 v2 w1 w2 dl
      have KG : K.1 = G.1 := mh_ms_ext u1 g1 (fun x => by rw [u3, g3])
      have KV : K.2 = V := by
        rw [KG] at u2 u4
        refine mh_ct_ext g1 u2 w1 (fun x _ => ?_)
        rw [u4, w2, g4]
        show mh_ct c2 B x + _ = mh_ct c2 n2 x + _ - _
        rw [o2]
        have : mh_ct c2 ms x ≤ mh_ct c2 n2 x := by
          by_cases y : x ∈ c2
          · obtain ⟨j, j1, j2⟩ := mh_mem_get y
            rw [← j2, mh_ct_get z2.1 j1, mh_ct_get z2.1 j1]
            exact h.2.1.1.2 j j1
          · rw [mh_ct_no y]; exact Nat.zero_le _
        omega
      have dV : mh_dot G.1 V = mh_dot c2 n2 + s := by omega
      have zd := z1.2.2.2
      refine ⟨fun hn => ?_, fun _ _ hs => ⟨?_, ⟨v3, v4, H20, by omega⟩, ⟨u1, u2, K20, ?_⟩⟩⟩
      · rw [dl]
        rcases hn with hn | hn | hn
        · exact absurd f2 hn
        · exact absurd f1 hn
        · rw [if_neg (by omega)]
      · rw [dl, if_pos (by omega), KG, KV]
      · rw [KG, KV]; omega
    · have m2 : mh_mv c2 ms G.1 G.2 c1 A = none := (mh_mv_fit c2 ms G.1 G.2 c1 A ml z2.1 z1.1 p1).2 f2
      exact ⟨fun _ => mh_dl_n2 m1 m2, fun z => absurd z f2⟩
  · have m1 : mh_mv c1 ks c1 n1 c2 n2 = none := (mh_mv_fit c1 ks c1 n1 c2 n2 kl z1.1 z2.1 z2.2.1).2 (fun z => f1 (hB.mpr z))
    exact ⟨fun _ => mh_dl_n1 m1, fun _ z => absurd z f1⟩
