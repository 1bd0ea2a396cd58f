/-! the weights of rests, exactly: the least of all coins that lead there -/
def mh_Ex (m : Nat) (cs : List Nat) (wf w : Nat → Nat) : Prop :=
  (∀ r, r < m → w r ≠ mh_INF → ∃ l : List Nat, (∀ x, x ∈ l → x ∈ cs) ∧ l.sum % m = r ∧ (l.map wf).sum = w r) ∧
  ∀ l : List Nat, (∀ x, x ∈ l → x ∈ cs) → w (l.sum % m) ≤ (l.map wf).sum ∧ w (l.sum % m) ≠ mh_INF
theorem mh_take_s {cs : List Nat} {i : Nat} (hi : i < cs.length) : cs.take (i + 1) = cs.take i ++ [cs.getD i 0] := by
  rw [List.take_succ, List.getD_eq_getElem?_getD, List.getElem?_eq_getElem hi]
  rfl
theorem mh_get_mem {cs : List Nat} {i : Nat} (hi : i < cs.length) : cs.getD i 0 ∈ cs := by
  rw [List.getD_eq_getElem?_getD, List.getElem?_eq_getElem hi]
  exact List.getElem_mem hi
theorem mh_out (wf : Nat → Nat) (c : Nat) : ∀ (l : List Nat), ∃ (l0 : List Nat) (k : Nat), (∀ x, x ∈ l0 → x ∈ l ∧ x ≠ c) ∧ l.sum = l0.sum + k * c ∧ (l.map wf).sum = (l0.map wf).sum + k * wf c ∧ l.length = l0.length + k := by
  intro l
  induction l with
  | nil => exact ⟨[], 0, fun x h => absurd h List.not_mem_nil, by simp, by simp, rfl⟩
  | cons x l ih =>
    obtain ⟨l0, k, h1, h2, h3, h4⟩ := ih
    by_cases hx : x = c
    · subst hx
      refine ⟨l0, k + 1, fun y hy => ⟨List.mem_cons_of_mem _ (h1 y hy).1, (h1 y hy).2⟩, ?_, ?_, ?_⟩
      · rw [List.sum_cons, Nat.succ_mul]; omega
      · rw [List.map_cons, List.sum_cons, Nat.succ_mul]; omega
      · rw [List.length_cons]; omega
    · refine ⟨x :: l0, k, fun y hy => ?_, ?_, ?_, ?_⟩
      · rcases List.mem_cons.mp hy with e | hy
        · rw [e]; exact ⟨List.mem_cons_self, hx⟩
        · exact ⟨List.mem_cons_of_mem _ (h1 y hy).1, (h1 y hy).2⟩
      · rw [List.sum_cons, List.sum_cons]; omega
      · rw [List.map_cons, List.sum_cons, List.map_cons, List.sum_cons]; omega
      · rw [List.length_cons, List.length_cons]; omega
theorem mh_Ex_0 {m : Nat} (hm : 0 < m) (wf : Nat → Nat) : mh_Ex m [] wf (fun r => if r = 0 then 0 else mh_INF) := by
  constructor
  · intro r hr hw
    have hr0 : r = 0 := by
      refine Decidable.byContradiction (fun q => ?_)
      exact hw (if_neg q)
    subst hr0
    exact ⟨[], fun x h => h, Nat.zero_mod m, rfl⟩
  · intro l hl
    have e : l = [] := by
      cases l with
      | nil => rfl
      | cons c l => exact absurd (hl c List.mem_cons_self) List.not_mem_nil
    subst e
    show (if 0 % m = 0 then 0 else mh_INF) ≤ 0 ∧ (if 0 % m = 0 then 0 else mh_INF) ≠ mh_INF
    rw [if_pos (Nat.zero_mod m)]
    exact ⟨Nat.le_refl _, by unfold mh_INF; omega⟩
theorem mh_Ex_add {m c T B : Nat} {cs : List Nat} {wf w0 w : Nat → Nat} (hm : 0 < m) (h : mh_Ex m cs wf w0) (hB : ∀ r, r < m → w0 r ≠ mh_INF → w0 r ≤ B) (hBW : B + m * wf c < mh_INF) (hS : mh_So m c (wf c) w0 w T) (hD : ∀ r k, r < m → w0 r ≠ mh_INF → w ((r + k * c) % m) ≤ w0 r + k * wf c) : mh_Ex m (cs ++ [c]) wf w := by
  constructor
  · intro r hr hw
    obtain ⟨k, r0, _, h2, h3, h4, h5⟩ := hS r hr hw
    obtain ⟨l, q1, q2, q3⟩ := h.1 r0 h2 h3
    refine ⟨l ++ List.replicate k c, fun x hx => ?_, ?_, ?_⟩
    · rcases List.mem_append.mp hx with hx | hx
      · exact List.mem_append_left _ (q1 x hx)
      · rw [(List.mem_replicate.mp hx).2]
        exact List.mem_append_right _ (List.mem_singleton.mpr rfl)
    · rw [List.sum_append_nat, List.sum_replicate_nat, h4, ← q2, Nat.mod_add_mod]
    · rw [List.map_append, List.sum_append_nat, List.map_replicate, List.sum_replicate_nat, h5, q3]
  · intro l hl
    obtain ⟨l0, k, h1, h2, h3, h4⟩ := mh_out wf c l
    have hl0 : ∀ x, x ∈ l0 → x ∈ cs := fun x hx => by
      rcases List.mem_append.mp (hl x (h1 x hx).1) with q | q
      · exact q
      · exact absurd (List.mem_singleton.mp q) (h1 x hx).2
    have h5 := h.2 l0 hl0
    have hr := Nat.mod_lt l0.sum hm
    have h6 := hD (l0.sum % m) k hr h5.2
    have h7 := hD (l0.sum % m) (k % m) hr h5.2
    have e : (l0.sum % m + k * c) % m = l.sum % m := by rw [Nat.mod_add_mod, h2]
    have e2 : (l0.sum % m + k % m * c) % m = l.sum % m := by
      rw [← e, Nat.add_mod (l0.sum % m) (k * c), Nat.mul_mod k c, Nat.add_mod (l0.sum % m) (k % m * c), Nat.mul_mod (k % m) c, Nat.mod_mod, Nat.mod_mod k]
    rw [e] at h6
    rw [e2] at h7
    have hb := hB _ hr h5.2
    have hk := Nat.mul_le_mul_right (wf c) (Nat.le_of_lt (Nat.mod_lt k hm))
    refine ⟨by omega, by omega⟩
theorem mh_Ex_b {m W : Nat} {cs : List Nat} {wf w : Nat → Nat} (hm : 0 < m) (h : mh_Ex m cs wf w) (hW : ∀ x, x ∈ cs → wf x ≤ W) {r : Nat} (hr : r < m) (hw : w r ≠ mh_INF) : w r ≤ (m - 1) * W := by
  obtain ⟨l, h1, h2, h3⟩ := h.1 r hr hw
  obtain ⟨l', q1, q2, q3, q4, q5⟩ := mh_short hm wf l.length l (Nat.le_refl _)
  have h4 := (h.2 l' (fun x hx => h1 x (q2 x hx))).1
  rw [q3, h2] at h4
  have h5 := mh_sum_le (l'.map wf) (fun x hx => by
    obtain ⟨y, hy, e⟩ := List.mem_map.mp hx
    rw [← e]
    exact hW y (h1 y (q2 y hy)))
  rw [List.length_map] at h5
  have := Nat.mul_le_mul_right W (show l'.length ≤ m - 1 by omega)
  omega
/-! LeastSums: the object at o, its clock at k -/
def mh_mt (cs : List Nat) : Prop := cs.length ≤ 12 ∧ ∀ x, x ∈ cs → 1 ≤ x ∧ x ≤ 300
theorem mh_mt.get {cs : List Nat} (h : mh_mt cs) {i : Nat} (hi : i < cs.length) : 1 ≤ cs.getD i 0 ∧ cs.getD i 0 ≤ 300 := h.2 _ (mh_get_mem hi)
theorem mh_mt.le {cs : List Nat} (h : mh_mt cs) (i : Nat) : cs.getD i 0 ≤ 300 := by
  by_cases hi : i < cs.length
  · exact (h.get hi).2
  · rw [mh_getD0 (by omega)]; omega
def mh_LS (h : mh_H) (o k v m : Nat) (f : Nat → Int32) (w : Nat → Nat) : Prop := h o = some (.inr (4, [.ref k])) ∧ mh_Cl h k v m f w
theorem mh_idm (l : List Nat) : l.map (fun x => x) = l := List.map_id' l
theorem mh_fx4_take {h : mh_H} {o k v a u m : Nat} {x : Int32} {f fc : Nat → Int32} {cs : List Nat} (ho : h o = some (.inr (4, [.ref k]))) (hk : h k = some (.inr (0, [.ref v, .int x]))) (hv : h v = some (.inl (0, 300, .inl f))) (hc : mh_Co h a u fc cs) (hmt : mh_mt cs) (m1 : 1 ≤ m) (m2 : m ≤ 300) :
    ∃ f' w, f_X4_take_e o a (nI m) h = some (mh_up (mh_up h k (.inr (0, [.ref v, .int (nI m)]))) v (.inl (0, 300, .inl f'))) ∧ mh_LS (mh_up (mh_up h k (.inr (0, [.ref v, .int (nI m)]))) v (.inl (0, 300, .inl f'))) o k v m f' w ∧ mh_Ex m cs (fun x => x) w := by
  have n1 : o ≠ k := mh_apt ho hk (fun q => by cases q)
  have n2 : o ≠ v := mh_apt ho hv (fun q => by cases q)
  have n3 : a ≠ k := mh_apt hc.1 hk (fun q => by cases q)
  have n4 : a ≠ v := mh_apt hc.1 hv (fun q => by cases q)
  have n5 : u ≠ k := mh_apt hc.2.1 hk (fun q => by cases q)
  have n6 : u ≠ v := mh_apt hc.2.1 hv (fun q => by cases q)
  unfold f_X4_take_e
  obtain ⟨f1, q1, q2⟩ := mh_fx0_start hk hv m1 m2
  rw [mh_gR_eq ho rfl, Option.bind_some, mh_cal_eq hk, q1, Option.bind_some, mh_nm_eq]
  have hcu : ∀ f', mh_Co (mh_up (mh_up h k (.inr (0, [.ref v, .int (nI m)]))) v (.inl (0, 300, .inl f'))) a u fc cs := fun f' => hc.keep (by rw [mh_up_ne n4, mh_up_ne n3]) (by rw [mh_up_ne n6, mh_up_ne n5])
  have hou : ∀ f', (mh_up (mh_up h k (.inr (0, [.ref v, .int (nI m)]))) v (.inl (0, 300, .inl f'))) o = some (.inr (4, [.ref k])) := fun f' => by rw [mh_up_ne n2, mh_up_ne n1]; exact ho
  have hl := hmt.1
  have key := mh_wh (fun n (s : Nat × (Nat → Int32) × (Nat → Nat)) => f_X4_take_b10 n o a (nI s.1) (mh_up (mh_up h k (.inr (0, [.ref v, .int (nI m)]))) v (.inl (0, 300, .inl s.2.1))))
    (fun (s : (Nat → Int32) × (Nat → Nat)) => some (mh_up (mh_up h k (.inr (0, [.ref v, .int (nI m)]))) v (.inl (0, 300, .inl s.1))))
    (fun s => s.1 ≤ cs.length ∧ mh_Cl (mh_up (mh_up h k (.inr (0, [.ref v, .int (nI m)]))) v (.inl (0, 300, .inl s.2.1))) k v m s.2.1 s.2.2 ∧ mh_Ex m (cs.take s.1) (fun x => x) s.2.2) (fun s => cs.length - s.1)
    (fun s => mh_Cl (mh_up (mh_up h k (.inr (0, [.ref v, .int (nI m)]))) v (.inl (0, 300, .inl s.1))) k v m s.1 s.2 ∧ mh_Ex m cs (fun x => x) s.2)
    (fun n s hs => by
      obtain ⟨i, f, w⟩ := s
      obtain ⟨s1, s2, s3⟩ := hs
      have s1 : i ≤ cs.length := s1
      have s2 : mh_Cl (mh_up (mh_up h k (.inr (0, [.ref v, .int (nI m)]))) v (.inl (0, 300, .inl f))) k v m f w := s2
      have s3 : mh_Ex m (cs.take i) (fun x => x) w := s3
      have s4 := hcu f
      by_cases hi : i < cs.length
      · have hci := hmt.get hi
        have hB : ∀ r, r < m → w r ≠ mh_INF → w r ≤ 89700 := fun r hr hw => by
          have := mh_Ex_b m1 s3 (W := 300) (fun x hx => (hmt.2 x (List.mem_of_mem_take hx)).2) hr hw
          have := Nat.mul_le_mul_right 300 (show m - 1 ≤ 299 by omega)
          omega
        obtain ⟨f', w', r1, r2, ⟨T, r3⟩, r4⟩ := mh_fx0_allow (st := cs.getD i 0) (wt := cs.getD i 0) s2 hci.2 hB (by unfold mh_INF; omega)
        rw [mh_up_up] at r1 r2
        refine Or.inl ⟨(i + 1, f', w'), ⟨hi, r2, ?_⟩, by show cs.length - (i + 1) < cs.length - i; omega, ?_⟩
        · show mh_Ex m (cs.take (i + 1)) (fun x => x) w'
          rw [mh_take_s hi]
          refine mh_Ex_add (B := 89700) m1 s3 hB ?_ r3 r4
          have := Nat.mul_le_mul_right 300 m2
          have := Nat.mul_le_mul_left m hci.2
          show 89700 + m * cs.getD i 0 < mh_INF
          unfold mh_INF
          omega
        · show f_X4_take_b10 (n + 1) _ _ _ _ = _
          rw [f_X4_take_b10, mh_cal_eq s4.1, mh_b2_eq (mh_fx1_count s4), if_neg (fun q => absurd ((nI_leI (by omega) (by omega)).mp q) (by omega)), mh_gR_eq (hou f) rfl, Option.bind_some, mh_cal_eq s4.1, mh_b2_eq (mh_fx1_value s4 (by omega)), mh_cal_eq s4.1, mh_b2_eq (mh_fx1_value s4 (by omega)), mh_cal_eq s2.1, r1, Option.bind_some, mh_nm_eq, mh_inc]
      · have e : i = cs.length := by omega
        refine Or.inr ⟨(f, w), ⟨s2, ?_⟩, ?_⟩
        · rw [e, List.take_length] at s3
          exact s3
        · show f_X4_take_b10 (n + 1) _ _ _ _ = _
          rw [f_X4_take_b10, mh_cal_eq s4.1, mh_b2_eq (mh_fx1_count s4), if_pos ((nI_leI (by omega) (by omega)).mpr (by omega))]
          rfl)
    cs.length mh_fu (0, f1, _) (by show cs.length - 0 ≤ _; omega) ⟨Nat.zero_le _, q2, by rw [List.take_zero]; exact mh_Ex_0 m1 _⟩ (mh_fuel _ (by omega))
  obtain ⟨⟨f', w⟩, ⟨r1, r2⟩, r3⟩ := key
  have r3 : f_X4_take_b10 mh_fu o a (nI 0) (mh_up (mh_up h k (.inr (0, [.ref v, .int (nI m)]))) v (.inl (0, 300, .inl f1))) = _ := r3
  rw [nI_0] at r3
  exact ⟨f', w, r3, ⟨hou f', r1⟩, r2⟩
section MhLS
variable {h : mh_H} {o k v m : Nat} {f : Nat → Int32} {w : Nat → Nat}
theorem mh_fx4_least (hs : mh_LS h o k v m f w) {r : Nat} (hr : r < m) : f_X4_least_e o (nI r) h = some (nI (w r), h) := by
  unfold f_X4_least_e
  rw [mh_gR_eq hs.1 rfl, Option.bind_some, mh_cal_eq hs.2.1, mh_b2_eq (mh_fx0_weight hs.2 hr)]
theorem mh_fx4_reaches (hs : mh_LS h o k v m f w) {s : Nat} (hb : s < mh_INF) : f_X4_reaches_e o (nI s) h = some (mh_bz (decide (w (s % m) ≤ s)), h) := by
  have m1 := hs.2.2.2.1
  have m2 := hs.2.2.2.2.1
  have hr := Nat.mod_lt s m1
  have hw := (hs.2.2.2.2.2 _ hr).2
  have hI : mh_INF < 2 ^ 31 := by unfold mh_INF; omega
  unfold f_X4_reaches_e
  rw [if_neg (nI_pos (by omega)), mh_gR_eq hs.1 rfl, Option.bind_some, mh_cal_eq hs.2.1, mh_b2_eq (mh_fx0_modulus hs.2), mh_nz_eq (nI_ne0 (by omega) (by omega)), mh_cal_eq hs.1]
  show mh_b2 (f_X4_least_e o (nI s - nI s / nI m * nI m) h) _ = _
  rw [pk_rem (by omega) (by omega) (by omega), mh_b2_eq (mh_fx4_least hs hr)]
  by_cases hc : w (s % m) ≤ s
  · rw [if_neg (fun q => absurd ((nI_ltI (by omega) (by omega)).mp q) (by omega)), decide_eq_true hc]
    rfl
  · rw [if_pos ((nI_ltI (by omega) (by omega)).mpr (by omega)), decide_eq_false hc]
    rfl
end MhLS
