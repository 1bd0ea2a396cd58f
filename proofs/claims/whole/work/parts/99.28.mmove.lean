/-! purses by value -/
def mh_ct (c n : List Nat) (x : Nat) : Nat := if x ∈ c then n.getD (mh_pf c (nI x)) 0 else 0
def mh_gt2 (P : List Nat × List Nat) (v k : Nat) : List Nat × List Nat := if mh_hd P.1 (nI v) = true then (P.1, P.2.set (mh_pf P.1 (nI v)) (P.2.getD (mh_pf P.1 (nI v)) 0 + k)) else (mh_ins P.1 v, mh_ic P.2 (mh_pf P.1 (nI v)) k)
def mh_gs : List Nat → List Nat → List Nat × List Nat → List Nat × List Nat
  | c :: cs, k :: ks, P => mh_gs cs ks (if k = 0 then P else mh_gt2 P c k)
  | [], _, P => P
  | _ :: _, [], P => P
def mh_sbs : List Nat → List Nat → List Nat → List Nat → List Nat
  | c :: cs, k :: ks, cF, nF => mh_sbs cs ks cF (if k = 0 then nF else mh_sb cF nF c k)
  | [], _, _, nF => nF
  | _ :: _, [], _, nF => nF
def mh_nw : List Nat → List Nat → List Nat → Nat
  | c :: cs, k :: ks, cT => (if k ≠ 0 ∧ c ∉ cT then 1 else 0) + mh_nw cs ks cT
  | [], _, _ => 0
  | _ :: _, [], _ => 0
def mh_fit (cs ks cT nT : List Nat) : Prop := (∀ i, i < cs.length → 0 < ks.getD i 0 → cs.getD i 0 ∈ cT → mh_ct cT nT (cs.getD i 0) + ks.getD i 0 ≤ 20) ∧ cT.length + mh_nw cs ks cT ≤ 12
theorem mh_ct_get {c n : List Nat} (hm : mh_ms c) {i : Nat} (hi : i < c.length) : mh_ct c n (c.getD i 0) = n.getD i 0 := by
  unfold mh_ct
  rw [if_pos (mh_get_mem hi), mh_pf_get hm hi]
theorem mh_ct_no {c n : List Nat} {x : Nat} (h : x ∉ c) : mh_ct c n x = 0 := if_neg h
theorem mh_ct_ext {c n n' : List Nat} (hm : mh_ms c) (h1 : n.length = c.length) (h2 : n'.length = c.length) (h : ∀ x, x ∈ c → mh_ct c n x = mh_ct c n' x) : n = n' := by
  refine mh_lext (by omega) (fun i hi => ?_)
  have := h _ (mh_get_mem (show i < c.length by omega))
  rwa [mh_ct_get hm (by omega), mh_ct_get hm (by omega)] at this
theorem mh_ms_ext {c c' : List Nat} (h : mh_ms c) (h' : mh_ms c') (e : ∀ x, x ∈ c ↔ x ∈ c') : c = c' := by
  have key : ∀ (a b : List Nat), a.Pairwise (· < ·) → b.Pairwise (· < ·) → (∀ x, x ∈ a ↔ x ∈ b) → a = b := by
    intro a
    induction a with
    | nil =>
      intro b _ _ hx
      cases b with
      | nil => rfl
      | cons y b => exact absurd ((hx y).mpr List.mem_cons_self) List.not_mem_nil
    | cons x a ih =>
      intro b ha hb hx
      cases b with
      | nil => exact absurd ((hx x).mp List.mem_cons_self) List.not_mem_nil
      | cons y b =>
        have ha' := List.pairwise_cons.mp ha
        have hb' := List.pairwise_cons.mp hb
        have exy : x = y := by
          rcases List.mem_cons.mp ((hx x).mp List.mem_cons_self) with q | q
          · exact q
          · rcases List.mem_cons.mp ((hx y).mpr List.mem_cons_self) with r | r
            · exact r.symm
            · have := ha'.1 y r
              have := hb'.1 x q
              omega
        subst exy
        congr 1
        refine ih b ha'.2 hb'.2 (fun z => ⟨fun q => ?_, fun q => ?_⟩)
        · rcases List.mem_cons.mp ((hx z).mp (List.mem_cons_of_mem _ q)) with r | r
          · have := ha'.1 z q; omega
          · exact r
        · rcases List.mem_cons.mp ((hx z).mpr (List.mem_cons_of_mem _ q)) with r | r
          · have := hb'.1 z q; omega
          · exact r
  exact key c c' h.2 h'.2 e
theorem mh_ct_cons {c k : Nat} {cs ks : List Nat} (hm : mh_ms (c :: cs)) (x : Nat) : mh_ct (c :: cs) (k :: ks) x = if x = c then k else mh_ct cs ks x := by
  have hm' : mh_ms cs := mh_ms_sub hm (List.sublist_cons_self c cs)
  have hlt := (List.pairwise_cons.mp hm.2).1
  by_cases e : x = c
  · rw [if_pos e, e]
    exact mh_ct_get (i := 0) hm (by simp)
  · rw [if_neg e]
    by_cases q : x ∈ cs
    · obtain ⟨i, i1, i2⟩ := mh_mem_get q
      rw [← i2, mh_ct_get hm' i1]
      exact mh_ct_get (c := c :: cs) (n := k :: ks) (i := i + 1) hm (by simpa using i1)
    · rw [mh_ct_no q, mh_ct_no (fun z => (List.mem_cons.mp z).elim e q)]
theorem mh_gt2_ok {P : List Nat × List Nat} {v k : Nat} (hm : mh_ms P.1) (hl : P.2.length = P.1.length) (h1 : 1 ≤ v) (h2 : v ≤ 300) (h3 : v ∈ P.1 ∨ P.1.length < 12) : mh_ms (mh_gt2 P v k).1 ∧ (mh_gt2 P v k).2.length = (mh_gt2 P v k).1.length ∧ (∀ x, x ∈ (mh_gt2 P v k).1 ↔ x ∈ P.1 ∨ x = v) ∧ (∀ x, mh_ct (mh_gt2 P v k).1 (mh_gt2 P v k).2 x = mh_ct P.1 P.2 x + if x = v then k else 0) ∧ (mh_gt2 P v k).1.length = P.1.length + if v ∈ P.1 then 0 else 1 := by
  obtain ⟨c, n⟩ := P
  have hm : mh_ms c := hm
  have hl : n.length = c.length := hl
  have h3 : v ∈ c ∨ c.length < 12 := h3
  unfold mh_gt2
  by_cases hh : mh_hd c (nI v) = true
  · have hv := (mh_hd_iff hm (show v < 2 ^ 31 by omega)).mp hh
    have hi := mh_hd_pf hh
    show mh_ms (if mh_hd c (nI v) = true then (c, n.set (mh_pf c (nI v)) (n.getD (mh_pf c (nI v)) 0 + k)) else (mh_ins c v, mh_ic n (mh_pf c (nI v)) k)).1 ∧ _
    rw [if_pos hh]
    refine ⟨hm, by rw [List.length_set]; exact hl, fun x => ⟨Or.inl, fun q => q.elim id (fun q => by rw [q]; exact hv)⟩, fun x => ?_, by show c.length = c.length + if v ∈ c then 0 else 1; rw [if_pos hv]; rfl⟩
    show mh_ct c (n.set (mh_pf c (nI v)) (n.getD (mh_pf c (nI v)) 0 + k)) x = mh_ct c n x + if x = v then k else 0
    by_cases hx : x ∈ c
    · obtain ⟨i, i1, i2⟩ := mh_mem_get hx
      rw [← i2, mh_ct_get hm i1, mh_ct_get hm i1, mh_getD_set (by omega)]
      by_cases e : i = mh_pf c (nI v)
      · have ev : c.getD i 0 = v := by
          obtain ⟨t, t1, t2⟩ := mh_mem_get hv
          have := mh_pf_get hm t1
          rw [t2] at this
          rw [e, this, t2]
        rw [if_pos e, if_pos ev, e]
      · have ev : c.getD i 0 ≠ v := fun q => e (by rw [← q, mh_pf_get hm i1])
        rw [if_neg e, if_neg ev]
        rfl
    · rw [mh_ct_no hx, mh_ct_no hx, if_neg (fun q => hx (by rw [q]; exact hv))]
  · have hv : v ∉ c := fun q => hh ((mh_hd_iff hm (show v < 2 ^ 31 by omega)).mpr q)
    have hlt := h3.resolve_left hv
    have ple := mh_pf_le c (nI v)
    show mh_ms (if mh_hd c (nI v) = true then (c, n.set (mh_pf c (nI v)) (n.getD (mh_pf c (nI v)) 0 + k)) else (mh_ins c v, mh_ic n (mh_pf c (nI v)) k)).1 ∧ _
    rw [if_neg hh]
    have hm' := mh_ins_ms hm h1 h2 hlt hv
    have mem : ∀ x, x ∈ mh_ins c v ↔ x ∈ c ∨ x = v := fun x => by
      unfold mh_ins
      have e : x ∈ c ↔ x ∈ c.take (mh_pf c (nI v)) ∨ x ∈ c.drop (mh_pf c (nI v)) := by
        rw [← List.mem_append, List.take_append_drop]
      rw [List.mem_append, List.mem_cons, e]
      exact ⟨fun q => q.elim (fun q => Or.inl (Or.inl q)) (fun q => q.elim Or.inr (fun q => Or.inl (Or.inr q))), fun q => q.elim (fun q => q.elim Or.inl (fun q => Or.inr (Or.inr q))) (fun q => Or.inr (Or.inl q))⟩
    refine ⟨hm', by show (mh_ic n _ k).length = (mh_ins c v).length; rw [mh_ic_len (by omega), mh_ins_len, hl], mem, fun x => ?_, by show (mh_ins c v).length = c.length + if v ∈ c then 0 else 1; rw [if_neg hv, mh_ins_len]⟩
    show mh_ct (mh_ins c v) (mh_ic n (mh_pf c (nI v)) k) x = mh_ct c n x + if x = v then k else 0
    have il := mh_ins_len c v
    by_cases ev : x = v
    · rw [if_pos ev, ev, mh_ct_no hv]
      have g : (mh_ins c v).getD (mh_pf c (nI v)) 0 = v := by rw [mh_ins_get, if_neg (Nat.lt_irrefl _), if_pos rfl]
      have := mh_ct_get (n := mh_ic n (mh_pf c (nI v)) k) hm' (i := mh_pf c (nI v)) (by omega)
      rw [g, mh_ic_get (by omega), if_neg (Nat.lt_irrefl _), if_pos rfl] at this
      omega
    · rw [if_neg ev]
      by_cases hx : x ∈ c
      · obtain ⟨i, i1, i2⟩ := mh_mem_get hx
        rw [← i2, mh_ct_get hm i1]
        by_cases hp : i < mh_pf c (nI v)
        · have g : (mh_ins c v).getD i 0 = c.getD i 0 := by rw [mh_ins_get, if_pos hp]
          have := mh_ct_get (n := mh_ic n (mh_pf c (nI v)) k) hm' (i := i) (by omega)
          rw [g, mh_ic_get (by omega), if_pos hp] at this
          exact this
        · have g : (mh_ins c v).getD (i + 1) 0 = c.getD i 0 := by rw [mh_ins_get, if_neg (by omega), if_neg (by omega), Nat.add_sub_cancel]
          have := mh_ct_get (n := mh_ic n (mh_pf c (nI v)) k) hm' (i := i + 1) (by omega)
          rw [g, mh_ic_get (by omega), if_neg (by omega), if_neg (by omega), Nat.add_sub_cancel] at this
          exact this
      · rw [mh_ct_no hx, mh_ct_no (fun q => ((mem x).mp q).elim hx ev)]
theorem mh_nw_congr {cT cT' : List Nat} : ∀ (cs ks : List Nat), (∀ x, x ∈ cs → (x ∈ cT ↔ x ∈ cT')) → mh_nw cs ks cT = mh_nw cs ks cT' := by
  intro cs
  induction cs with
  | nil => intro ks _; rfl
  | cons c cs ih =>
    intro ks h
    cases ks with
    | nil => rfl
    | cons k ks =>
      rw [mh_nw, mh_nw, ih ks (fun x hx => h x (List.mem_cons_of_mem _ hx))]
      have := h c List.mem_cons_self
      by_cases q : c ∈ cT
      · rw [if_neg (fun z => z.2 q), if_neg (fun z => z.2 (this.mp q))]
      · by_cases k0 : k = 0
        · rw [if_neg (fun z => z.1 k0), if_neg (fun z => z.1 k0)]
        · rw [if_pos ⟨k0, q⟩, if_pos ⟨k0, fun z => q (this.mpr z)⟩]
theorem mh_fit_s {c k : Nat} {cs ks cT nT : List Nat} (hm : mh_ms (c :: cs)) (hT : mh_ms cT) (hlT : nT.length = cT.length) : mh_fit (c :: cs) (k :: ks) cT nT ↔ if k = 0 then mh_fit cs ks cT nT else ((c ∈ cT → mh_ct cT nT c + k ≤ 20) ∧ (c ∉ cT → cT.length < 12) ∧ mh_fit cs ks (mh_gt2 (cT, nT) c k).1 (mh_gt2 (cT, nT) c k).2) := by
  have hc := hm.1.2 c List.mem_cons_self
  have hlt := (List.pairwise_cons.mp hm.2).1
  have sp : ∀ (Q : Nat → Nat → Prop), (∀ i, i < (c :: cs).length → Q ((c :: cs).getD i 0) ((k :: ks).getD i 0)) ↔ Q c k ∧ ∀ i, i < cs.length → Q (cs.getD i 0) (ks.getD i 0) := fun Q => by
    constructor
    · intro h
      exact ⟨h 0 (by simp), fun i hi => h (i + 1) (by simpa using hi)⟩
    · rintro ⟨h0, h1⟩ i hi
      cases i with
      | zero => exact h0
      | succ i => exact h1 i (by simpa using hi)
  unfold mh_fit
  have e1 := sp (fun x y => 0 < y → x ∈ cT → mh_ct cT nT x + y ≤ 20)
  rw [e1, mh_nw]
  by_cases k0 : k = 0
  · rw [if_pos k0, if_neg (fun z => z.1 k0), Nat.zero_add]
    exact ⟨fun h => ⟨h.1.2, h.2⟩, fun h => ⟨⟨fun q => by omega, h.1⟩, h.2⟩⟩
  · rw [if_neg k0]
    by_cases hin : c ∈ cT
    · obtain ⟨g1, g2, g3, g4, g5⟩ := mh_gt2_ok (P := (cT, nT)) (k := k) hT hlT hc.1 hc.2 (Or.inl hin)
      rw [if_pos hin] at g5
      have nwe : mh_nw cs ks (mh_gt2 (cT, nT) c k).1 = mh_nw cs ks cT := mh_nw_congr cs ks (fun x hx => by
        rw [g3 x]
        exact ⟨fun q => q.elim id (fun q => by have := hlt x hx; omega), Or.inl⟩)
      rw [if_neg (fun z => z.2 hin), g5, nwe, Nat.zero_add, Nat.add_zero]
      refine ⟨fun h => ⟨fun q => h.1.1 (by omega) q, fun q => absurd hin q, fun i hi h0 hx => ?_, h.2⟩, fun h => ⟨⟨fun _ q => h.1 q, fun i hi h0 hx => ?_⟩, h.2.2.2⟩⟩
      · have hne : cs.getD i 0 ≠ c := by have := hlt _ (mh_get_mem hi); omega
        rw [g4, if_neg hne]
        exact h.1.2 i hi h0 (((g3 _).mp hx).resolve_right hne)
      · have hne : cs.getD i 0 ≠ c := by have := hlt _ (mh_get_mem hi); omega
        have := h.2.2.1 i hi h0 ((g3 _).mpr (Or.inl hx))
        rw [g4, if_neg hne] at this
        exact this
    · by_cases h12 : cT.length < 12
      · obtain ⟨g1, g2, g3, g4, g5⟩ := mh_gt2_ok (P := (cT, nT)) (k := k) hT hlT hc.1 hc.2 (Or.inr h12)
        rw [if_neg hin] at g5
        have nwe : mh_nw cs ks (mh_gt2 (cT, nT) c k).1 = mh_nw cs ks cT := mh_nw_congr cs ks (fun x hx => by
          rw [g3 x]
          exact ⟨fun q => q.elim id (fun q => by have := hlt x hx; omega), Or.inl⟩)
        have g5 : (mh_gt2 (cT, nT) c k).1.length = cT.length + 1 := g5
        rw [if_pos ⟨k0, hin⟩, g5, nwe]
        refine ⟨fun h => ⟨fun q => absurd q hin, fun _ => h12, fun i hi h0 hx => ?_, by omega⟩, fun h => ⟨⟨fun _ q => absurd q hin, fun i hi h0 hx => ?_⟩, by have := h.2.2.2; omega⟩⟩
        · have hne : cs.getD i 0 ≠ c := by have := hlt _ (mh_get_mem hi); omega
          rw [g4, if_neg hne]
          exact h.1.2 i hi h0 (((g3 _).mp hx).resolve_right hne)
        · have hne : cs.getD i 0 ≠ c := by have := hlt _ (mh_get_mem hi); omega
          have := h.2.2.1 i hi h0 ((g3 _).mpr (Or.inl hx))
          rw [g4, if_neg hne] at this
          exact this
      · rw [if_pos ⟨k0, hin⟩]
        exact ⟨fun h => absurd h.2 (by omega), fun h => absurd (h.2.1 hin) h12⟩
/-- when a move is done, and what it gives -/
theorem mh_mv_fit : ∀ (cs ks cF nF cT nT : List Nat), ks.length = cs.length → mh_ms cs → mh_ms cT → nT.length = cT.length → (mh_fit cs ks cT nT → mh_mv cs ks cF nF cT nT = some (mh_sbs cs ks cF nF, mh_gs cs ks (cT, nT))) ∧ (¬ mh_fit cs ks cT nT → mh_mv cs ks cF nF cT nT = none) := by
  intro cs
  induction cs with
  | nil =>
    intro ks cF nF cT nT hl _ hT _
    refine ⟨fun _ => ?_, fun h => absurd ⟨fun i hi => absurd hi (Nat.not_lt_zero i), ?_⟩ h⟩
    · cases ks with
      | nil => rfl
      | cons k ks => exact absurd hl (by simp)
    · have := hT.1.1
      show cT.length + 0 ≤ 12
      omega
  | cons c cs ih =>
    intro ks cF nF cT nT hl hm hT hlT
    cases ks with
    | nil => exact absurd hl (by simp)
    | cons k ks =>
      have hm' : mh_ms cs := mh_ms_sub hm (List.sublist_cons_self c cs)
      have hc := hm.1.2 c List.mem_cons_self
      have hl' : ks.length = cs.length := by simpa using hl
      rw [mh_fit_s hm hT hlT]
      by_cases k0 : k = 0
      · rw [if_pos k0, mh_mv_0 k0, mh_sbs, mh_gs, if_pos k0, if_pos k0]
        exact ih ks cF nF cT nT hl' hm' hT hlT
      · rw [if_neg k0, mh_sbs, mh_gs, if_neg k0, if_neg k0]
        by_cases hin : c ∈ cT
        · have hh := (mh_hd_iff hT (show c < 2 ^ 31 by omega)).mpr hin
          have ec : mh_ct cT nT c = nT.getD (mh_pf cT (nI c)) 0 := if_pos hin
          by_cases h20 : mh_ct cT nT c + k ≤ 20
          · have ea : mh_ad cT nT c k = some (mh_gt2 (cT, nT) c k) := by
              unfold mh_ad mh_gt2
              rw [if_pos hh, if_pos (by rw [← ec]; exact h20)]
              show _ = some (if mh_hd cT (nI c) = true then _ else _)
              rw [if_pos hh]
            obtain ⟨g1, g2, _⟩ := mh_gt2_ok (P := (cT, nT)) (k := k) hT hlT hc.1 hc.2 (Or.inl hin)
            obtain ⟨i1, i2⟩ := ih ks cF (mh_sb cF nF c k) (mh_gt2 (cT, nT) c k).1 (mh_gt2 (cT, nT) c k).2 hl' hm' g1 g2
            rw [mh_mv_s k0 ea]
            exact ⟨fun h => i1 h.2.2, fun h => i2 (fun q => h ⟨fun _ => h20, fun q => absurd hin q, q⟩)⟩
          · have ea : mh_ad cT nT c k = none := by
              unfold mh_ad
              rw [if_pos hh, if_neg (by rw [← ec]; exact h20)]
            rw [mh_mv_n k0 ea]
            exact ⟨fun h => absurd (h.1 hin) h20, fun _ => rfl⟩
        · have hh : ¬ mh_hd cT (nI c) = true := fun q => hin ((mh_hd_iff hT (show c < 2 ^ 31 by omega)).mp q)
          by_cases h12 : cT.length < 12
          · have ea : mh_ad cT nT c k = some (mh_gt2 (cT, nT) c k) := by
              unfold mh_ad mh_gt2
              rw [if_neg hh, if_neg (by omega)]
              show _ = some (if mh_hd cT (nI c) = true then _ else _)
              rw [if_neg hh]
            obtain ⟨g1, g2, _⟩ := mh_gt2_ok (P := (cT, nT)) (k := k) hT hlT hc.1 hc.2 (Or.inr h12)
            obtain ⟨i1, i2⟩ := ih ks cF (mh_sb cF nF c k) (mh_gt2 (cT, nT) c k).1 (mh_gt2 (cT, nT) c k).2 hl' hm' g1 g2
            rw [mh_mv_s k0 ea]
            exact ⟨fun h => i1 h.2.2, fun h => i2 (fun q => h ⟨fun q => absurd q hin, fun _ => h12, q⟩)⟩
          · have ea : mh_ad cT nT c k = none := by
              unfold mh_ad
              rw [if_neg hh, if_pos (by have := hT.1.1; omega)]
            rw [mh_mv_n k0 ea]
            exact ⟨fun h => absurd (h.2.1 hin) h12, fun _ => rfl⟩
/-- what a purse that gets has, by value -/
theorem mh_gs_ok : ∀ (cs ks : List Nat) (P : List Nat × List Nat), ks.length = cs.length → mh_ms cs → mh_ms P.1 → P.2.length = P.1.length → P.1.length + mh_nw cs ks P.1 ≤ 12 → mh_ms (mh_gs cs ks P).1 ∧ (mh_gs cs ks P).2.length = (mh_gs cs ks P).1.length ∧ (∀ x, x ∈ (mh_gs cs ks P).1 ↔ x ∈ P.1 ∨ 0 < mh_ct cs ks x) ∧ ∀ x, mh_ct (mh_gs cs ks P).1 (mh_gs cs ks P).2 x = mh_ct P.1 P.2 x + mh_ct cs ks x := by
  intro cs
  induction cs with
  | nil =>
    intro ks P hl _ hm hlP _
    have e0 : ∀ x, mh_ct [] ks x = 0 := fun x => mh_ct_no List.not_mem_nil
    exact ⟨hm, hlP, fun x => ⟨Or.inl, fun q => q.elim id (fun q => by rw [e0] at q; omega)⟩, fun x => by rw [e0]; rfl⟩
  | cons c cs ih =>
    intro ks P hl hm hP hlP h12
    cases ks with
    | nil => exact absurd hl (by simp)
    | cons k ks =>
      have hm' : mh_ms cs := mh_ms_sub hm (List.sublist_cons_self c cs)
      have hc := hm.1.2 c List.mem_cons_self
      have hlt := (List.pairwise_cons.mp hm.2).1
      have hl' : ks.length = cs.length := by simpa using hl
      have cno : c ∉ cs := fun q => by have := hlt c q; omega
      rw [mh_gs]
      rw [mh_nw] at h12
      by_cases k0 : k = 0
      · rw [if_pos k0]
        rw [if_neg (fun z => z.1 k0), Nat.zero_add] at h12
        obtain ⟨a1, a2, a3, a4⟩ := ih ks P hl' hm' hP hlP h12
        refine ⟨a1, a2, fun x => ?_, fun x => ?_⟩
        · rw [a3, mh_ct_cons hm]
          by_cases e : x = c
          · rw [if_pos e, e, mh_ct_no cno, k0]
          · rw [if_neg e]
        · rw [a4, mh_ct_cons hm]
          by_cases e : x = c
          · rw [if_pos e, e, mh_ct_no cno, k0]
          · rw [if_neg e]
      · rw [if_neg k0]
        have h3 : c ∈ P.1 ∨ P.1.length < 12 := by
          by_cases q : c ∈ P.1
          · exact Or.inl q
          · rw [if_pos ⟨k0, q⟩] at h12
            exact Or.inr (by omega)
        obtain ⟨g1, g2, g3, g4, g5⟩ := mh_gt2_ok (k := k) hP hlP hc.1 hc.2 h3
        have nwe : mh_nw cs ks (mh_gt2 P c k).1 = mh_nw cs ks P.1 := mh_nw_congr cs ks (fun x hx => by
          rw [g3 x]
          exact ⟨fun q => q.elim id (fun q => by have := hlt x hx; omega), Or.inl⟩)
        have h12' : (mh_gt2 P c k).1.length + mh_nw cs ks (mh_gt2 P c k).1 ≤ 12 := by
          rw [nwe, g5]
          by_cases q : c ∈ P.1
          · rw [if_pos q]; rw [if_neg (fun z => z.2 q)] at h12; omega
          · rw [if_neg q]; rw [if_pos ⟨k0, q⟩] at h12; omega
        obtain ⟨a1, a2, a3, a4⟩ := ih ks (mh_gt2 P c k) hl' hm' g1 g2 h12'
        refine ⟨a1, a2, fun x => ?_, fun x => ?_⟩
        · rw [a3, g3, mh_ct_cons hm]
          by_cases e : x = c
          · rw [if_pos e]
            exact ⟨fun _ => Or.inr (by omega), fun _ => Or.inl (Or.inr e)⟩
          · rw [if_neg e]
            exact ⟨fun q => q.elim (fun q => q.elim Or.inl (fun q => absurd q e)) Or.inr, fun q => q.elim (fun q => Or.inl (Or.inl q)) Or.inr⟩
        · rw [a4, g4, mh_ct_cons hm]
          by_cases e : x = c
          · rw [if_pos e, if_pos e, e, mh_ct_no cno]; rfl
          · rw [if_neg e, if_neg e]; rfl
/-- what a purse that gives has, by value -/
theorem mh_sbs_ok : ∀ (cs ks cF nF : List Nat), ks.length = cs.length → mh_ms cs → mh_ms cF → nF.length = cF.length → (∀ x, 0 < mh_ct cs ks x → x ∈ cF) → (mh_sbs cs ks cF nF).length = cF.length ∧ ∀ x, mh_ct cF (mh_sbs cs ks cF nF) x = mh_ct cF nF x - mh_ct cs ks x := by
  intro cs
  induction cs with
  | nil =>
    intro ks cF nF hl _ hm hlF _
    have e0 : ∀ x, mh_ct [] ks x = 0 := fun x => mh_ct_no List.not_mem_nil
    exact ⟨hlF, fun x => by rw [e0]; rfl⟩
  | cons c cs ih =>
    intro ks cF nF hl hm hF hlF hin
    cases ks with
    | nil => exact absurd hl (by simp)
    | cons k ks =>
      have hm' : mh_ms cs := mh_ms_sub hm (List.sublist_cons_self c cs)
      have hc := hm.1.2 c List.mem_cons_self
      have hlt := (List.pairwise_cons.mp hm.2).1
      have hl' : ks.length = cs.length := by simpa using hl
      have cno : c ∉ cs := fun q => by have := hlt c q; omega
      have hin' : ∀ x, 0 < mh_ct cs ks x → x ∈ cF := fun x hx => hin x (by
        rw [mh_ct_cons hm]
        by_cases e : x = c
        · rw [e, mh_ct_no cno] at hx; omega
        · rw [if_neg e]; exact hx)
      rw [mh_sbs]
      by_cases k0 : k = 0
      · rw [if_pos k0]
        obtain ⟨a1, a2⟩ := ih ks cF nF hl' hm' hF hlF hin'
        refine ⟨a1, fun x => ?_⟩
        rw [a2, mh_ct_cons hm]
        by_cases e : x = c
        · rw [if_pos e, e, mh_ct_no cno, k0]
        · rw [if_neg e]
      · rw [if_neg k0]
        have cin : c ∈ cF := hin c (by rw [mh_ct_cons hm, if_pos rfl]; omega)
        have sl : (mh_sb cF nF c k).length = cF.length := by unfold mh_sb; rw [List.length_set]; exact hlF
        obtain ⟨t, t1, t2⟩ := mh_mem_get cin
        have pc := mh_pf_get hF t1
        rw [t2] at pc
        have sct : ∀ x, mh_ct cF (mh_sb cF nF c k) x = mh_ct cF nF x - if x = c then k else 0 := fun x => by
          by_cases hx : x ∈ cF
          · obtain ⟨i, i1, i2⟩ := mh_mem_get hx
            rw [← i2, mh_ct_get hF i1, mh_ct_get hF i1]
            unfold mh_sb
            rw [mh_getD_set (by omega), pc]
            by_cases e : i = t
            · rw [if_pos e, e, t2, if_pos rfl]
            · have ne : cF.getD i 0 ≠ c := fun q => e (by
                have := mh_pf_get hF i1
                rw [q, pc] at this
                exact this.symm)
              rw [if_neg e, if_neg ne]; rfl
          · rw [mh_ct_no hx, mh_ct_no hx]; omega
        obtain ⟨a1, a2⟩ := ih ks cF (mh_sb cF nF c k) hl' hm' hF sl hin'
        refine ⟨a1, fun x => ?_⟩
        rw [a2, sct, mh_ct_cons hm]
        by_cases e : x = c
        · rw [if_pos e, if_pos e, e, mh_ct_no cno]; rfl
        · rw [if_neg e, if_neg e]; rfl
