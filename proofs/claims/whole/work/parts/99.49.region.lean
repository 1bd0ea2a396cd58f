/-! what a constructor leaves: the new cells r beside its object o -/
def mh_Rg (h : mh_H) (o : Nat) (hh : mh_H) (r : List Nat) : Prop := r.Nodup ∧ (∀ a, a ∈ r → h a = none ∧ hh a ≠ none) ∧ (∀ b, b ≠ o → b ∉ r → hh b = h b) ∧ h o ≠ none ∧ hh o ≠ none
section MhRg
variable {h hh h2 : mh_H} {o q : Nat} {r r2 : List Nat} {e : mh_E}
theorem mh_Rg.nil (ho : h o ≠ none) : mh_Rg h o h [] := ⟨List.nodup_nil, fun a ha => absurd ha List.not_mem_nil, fun _ _ _ => rfl, ho, ho⟩
theorem mh_Rg.no (R : mh_Rg h o hh r) : o ∉ r := fun q => R.2.2.2.1 (R.2.1 o q).1
theorem mh_Rg.out (R : mh_Rg h o hh r) (hq : hh q = none) : q ≠ o ∧ q ∉ r ∧ h q = none := by
  have h1 : q ≠ o := fun z => R.2.2.2.2 (z ▸ hq)
  have h2 : q ∉ r := fun z => (R.2.1 q z).2 hq
  exact ⟨h1, h2, (R.2.2.1 q h1 h2).symm.trans hq⟩
theorem mh_up_nn {x : mh_H} {a b : Nat} {e : mh_E} (hx : x b ≠ none) : mh_up x a e b ≠ none := by
  unfold mh_up
  split
  · exact fun z => by cases z
  · exact hx
theorem mh_Rg.add (R : mh_Rg h o hh r) (hq : hh q = none) : mh_Rg h o (mh_up hh q e) (r ++ [q]) := by
  obtain ⟨a1, a2, a3⟩ := R.out hq
  refine ⟨?_, fun a ha => ?_, fun b h1 h2 => ?_, R.2.2.2.1, mh_up_nn R.2.2.2.2⟩
  · rw [List.nodup_append]
    refine ⟨R.1, List.nodup_cons.mpr ⟨List.not_mem_nil, List.nodup_nil⟩, fun a ha b hb z => ?_⟩
    rw [List.mem_singleton] at hb
    exact a2 (by rw [← hb, ← z]; exact ha)
  · rcases List.mem_append.mp ha with ha | ha
    · exact ⟨(R.2.1 a ha).1, mh_up_nn (R.2.1 a ha).2⟩
    · rw [List.mem_singleton] at ha
      rw [ha]
      exact ⟨a3, by rw [mh_up_eq]; exact fun z => by cases z⟩
  · rw [mh_up_ne (fun z => h2 (List.mem_append_right _ (List.mem_singleton.mpr z)))]
    exact R.2.2.1 b h1 (fun z => h2 (List.mem_append_left _ z))
theorem mh_Rg.set (R : mh_Rg h o hh r) : mh_Rg h o (mh_up hh o e) r :=
  ⟨R.1, fun a ha => ⟨(R.2.1 a ha).1, mh_up_nn (R.2.1 a ha).2⟩, fun b h1 h2 => by rw [mh_up_ne h1]; exact R.2.2.1 b h1 h2, R.2.2.2.1, mh_up_nn R.2.2.2.2⟩
theorem mh_Rg.kept (R : mh_Rg hh q h2 r2) {b : Nat} (h1 : b ≠ q) (hb : hh b ≠ none) : h2 b = hh b := R.2.2.1 b h1 (fun z => hb (R.2.1 b z).1)
theorem mh_Rg.nn (R : mh_Rg hh q h2 r2) {b : Nat} (hb : hh b ≠ none) : h2 b ≠ none := by
  by_cases h1 : b = q
  · rw [h1]; exact R.2.2.2.2
  · rw [R.kept h1 hb]; exact hb
theorem mh_Rg.call (R : mh_Rg h o hh r) (hq : q ∈ r) (S : mh_Rg hh q h2 r2) : mh_Rg h o h2 (r ++ r2) := by
  refine ⟨?_, fun a ha => ?_, fun b h1 hb => ?_, R.2.2.2.1, S.nn R.2.2.2.2⟩
  · rw [List.nodup_append]
    exact ⟨R.1, S.1, fun a ha b hb z => (R.2.1 a ha).2 (by rw [z]; exact (S.2.1 b hb).1)⟩
  · rcases List.mem_append.mp ha with ha | ha
    · exact ⟨(R.2.1 a ha).1, S.nn (R.2.1 a ha).2⟩
    · exact ⟨(R.out (S.2.1 a ha).1).2.2, (S.2.1 a ha).2⟩
  · have b1 : b ∉ r := fun z => hb (List.mem_append_left _ z)
    have b2 : b ∉ r2 := fun z => hb (List.mem_append_right _ z)
    rw [S.2.2.1 b (fun z => b1 (z ▸ hq)) b2]
    exact R.2.2.1 b h1 b1
theorem mh_Rg.rows {N : Nat} {rf : Nat → Nat} {z : mh_E} (R : mh_Rg h o hh r) (hq : hh q = none) (hr : ∀ i, i < N → hh (rf i) = none ∧ rf i ≠ q) (hi : ∀ i j, i < N → j < N → rf i = rf j → i = j) : mh_Rg h o (mh_rws hh q e ((List.range N).map rf) z) (r ++ q :: (List.range N).map rf) := by
  obtain ⟨a1, a2, a3⟩ := R.out hq
  have mr : ∀ a, a ∈ (List.range N).map rf → hh a = none ∧ a ≠ q := fun a ha => by
    obtain ⟨i, h1, h2⟩ := List.mem_map.mp ha
    rw [← h2]
    exact hr i (List.mem_range.mp h1)
  have nn : ∀ {b}, hh b ≠ none → mh_rws hh q e ((List.range N).map rf) z b ≠ none := fun {b} hb => by
    unfold mh_rws
    split
    · exact fun z => by cases z
    · split
      · exact fun z => by cases z
      · exact hb
  refine ⟨?_, fun a ha => ?_, fun b h1 h2 => ?_, R.2.2.2.1, nn R.2.2.2.2⟩
  · rw [List.nodup_append]
    refine ⟨R.1, List.nodup_cons.mpr ⟨fun w => (mr q w).2 rfl, ?_⟩, fun a ha b hb w => ?_⟩
    · refine List.pairwise_map.mpr ?_
      refine List.Pairwise.imp_of_mem (R := fun a b => a ≠ b) (fun {a b} ha hb hab w => hab (hi a b (List.mem_range.mp ha) (List.mem_range.mp hb) w)) List.nodup_range
    · rcases List.mem_cons.mp hb with hb | hb
      · exact a2 (by rw [← hb, ← w]; exact ha)
      · exact (R.2.1 a ha).2 (by rw [w]; exact (mr b hb).1)
  · rcases List.mem_append.mp ha with ha | ha
    · exact ⟨(R.2.1 a ha).1, nn (R.2.1 a ha).2⟩
    · rcases List.mem_cons.mp ha with ha | ha
      · rw [ha]
        refine ⟨a3, ?_⟩
        unfold mh_rws
        rw [if_pos rfl]
        exact fun z => by cases z
      · refine ⟨(R.out (mr a ha).1).2.2, ?_⟩
        unfold mh_rws
        rw [if_neg (mr a ha).2, if_pos ha]
        exact fun z => by cases z
  · have b1 : b ∉ r := fun w => h2 (List.mem_append_left _ w)
    unfold mh_rws
    rw [if_neg (fun w => h2 (List.mem_append_right _ (List.mem_cons.mpr (Or.inl w)))), if_neg (fun w => h2 (List.mem_append_right _ (List.mem_cons.mpr (Or.inr w))))]
    exact R.2.2.1 b h1 b1
end MhRg
abbrev mh_Ni (n : Nat) : mh_E := .inl (0, n, .inl (fun _ => 0))
abbrev mh_Nz (n : Nat) : mh_E := .inl (2, n, .inl (fun _ => 0))
abbrev mh_Nj (n : Nat) : mh_E := .inl (1, n, .inr (.inl (fun _ => 0)))
/-- Coins, as it is made -/
def mh_qX1 (h : mh_H) (o : Nat) (h' : mh_H) : Prop := ∃ a, mh_Rg h o h' [a] ∧ h' o = some (.inr (1, [.ref a, .int 0])) ∧ h' a = some (mh_Ni 12)
theorem mh_pX1_q {h h' : mh_H} {o : Nat} (ho : h o ≠ none) (hp : mh_pX1 h o h') : mh_qX1 h o h' := by
  obtain ⟨a, ha, rfl⟩ := hp
  have R1 := (mh_Rg.nil ho).add (e := mh_Ni 12) ha
  exact ⟨a, R1.set, mh_up_eq _ _ _, by rw [mh_up_ne (fun z => ho (by rw [← z]; exact ha))]; exact mh_up_eq _ _ _⟩
