/-! needed coins -/
section MhNeedA
variable {h : mh_H} {ad : Nat → Nat} {σ : mh_Sg}
/-- Needs with what is offered -/
def mh_Nf (h : mh_H) (ad : Nat → Nat) (P : Nat → Prop) : Prop := ∃ fo fb fk ck, h (ad 1026) = some (mh_Ns (ad 1027) (ad 1028) (ad 1029)) ∧ h (ad 1027) = some (.inl (2, 301, .inl fo)) ∧ h (ad 1028) = some (.inl (2, 301, .inl fb)) ∧ mh_Co h (ad 1029) (ad 1030) fk ck ∧ ∀ j, j < 301 → mh_bp (fo j) (P j)
theorem mh_Nf.keep {h' : mh_H} {P : Nat → Prop} (hN : mh_Nf h ad P) (hk : ∀ k, 1026 ≤ k → k < 1031 → h' (ad k) = h (ad k)) : mh_Nf h' ad P := by
  obtain ⟨fo, fb, fk, ck, n1, n2, n3, n4, n5⟩ := hN
  exact ⟨fo, fb, fk, ck, (hk _ (by omega) (by omega)).trans n1, (hk _ (by omega) (by omega)).trans n2, (hk _ (by omega) (by omega)).trans n3, n4.keep (hk _ (by omega) (by omega)) (hk _ (by omega) (by omega)), n5⟩
theorem mh_Nf.nd {P : Nat → Prop} (hN : mh_Nf h ad P) : mh_nd h (ad 1026) (ad 1027) (ad 1028) (ad 1029) (ad 1030) := by
  obtain ⟨fo, fb, fk, ck, n1, n2, n3, n4, n5⟩ := hN
  exact ⟨fo, fb, fk, ck, n1, n2, n3, n4⟩
theorem mh_x_off (hC : mh_CI h ad σ) {h' : mh_H} {P : Nat → Prop} (hN : mh_Nf h' ad P) (hf : mh_fr [ad 1027] h h') : mh_CI h' ad σ ∧ mh_frC ad h h' := by
  refine hC.same 5 (by omega) (hf.rg (fun x hx => ?_)) hN.nd
  simp only [List.mem_cons, List.not_mem_nil, or_false] at hx
  exact ⟨1027, by decide, by decide, hx⟩
theorem mh_x_clear (hC : mh_CI h ad σ) : ∃ h', f_X5_clear_e (ad 1026) h = some h' ∧ mh_Nf h' ad (fun _ => False) ∧ mh_CI h' ad σ ∧ mh_frC ad h h' := by
  obtain ⟨fo, fb, fk, ck, n1, n2, n3, n4⟩ := hC.2 5 (by omega)
  have d1 := mh_apt n1 n2 (fun q => by cases q)
  obtain ⟨f', e1, e2⟩ := mh_fx5_clear d1 n1 n2
  have hN : mh_Nf (mh_up h (ad 1027) (.inl (2, 301, .inl f'))) ad (fun _ => False) := ⟨f', fb, fk, ck, by rw [mh_up_ne d1]; exact n1, mh_up_eq _ _ _, by rw [mh_up_ne (hC.1.ne (by omega) (by omega) (by omega))]; exact n3, n4.keep (mh_up_ne (mh_apt n4.1 n2 (fun q => by cases q))) (mh_up_ne (mh_apt n4.2.1 n2 (fun q => by cases q))), fun j hj => Or.inr ⟨id, e2 j hj⟩⟩
  obtain ⟨z1, z2⟩ := mh_x_off hC hN (mh_fr.up List.mem_cons_self)
  exact ⟨_, e1, hN, z1, z2⟩
theorem mh_x_offerAll (hC : mh_CI h ad σ) {P : Nat → Prop} (hN : mh_Nf h ad P) {p : Nat} (hp : p < 8) : ∃ h', f_X5_offerAll_e (ad 1026) (ad (6 * (σ.1.1 * 8 + p))) h = some h' ∧ mh_Nf h' ad (fun j => P j ∨ j ∈ σ.2.1.1 (σ.1.1 * 8 + p)) ∧ mh_CI h' ad σ ∧ mh_frC ad h h' := by
  obtain ⟨fo, fb, fk, ck, n1, n2, n3, n4, n5⟩ := hN
  obtain ⟨f, hc⟩ := mh_x_mint hC hp
  obtain ⟨f', e1, e2⟩ := mh_fx5_offerAll n1 n2 n5 hc (mh_x_ms hC hp).1
  have hN : mh_Nf (mh_up h (ad 1027) (.inl (2, 301, .inl f'))) ad (fun j => P j ∨ j ∈ σ.2.1.1 (σ.1.1 * 8 + p)) := ⟨f', fb, fk, ck, by rw [mh_up_ne (mh_apt n1 n2 (fun q => by cases q))]; exact n1, mh_up_eq _ _ _, by rw [mh_up_ne (hC.1.ne (by omega) (by omega) (by omega))]; exact n3, n4.keep (mh_up_ne (mh_apt n4.1 n2 (fun q => by cases q))) (mh_up_ne (mh_apt n4.2.1 n2 (fun q => by cases q))), e2⟩
  obtain ⟨z1, z2⟩ := mh_x_off hC hN (mh_fr.up List.mem_cons_self)
  exact ⟨_, e1, hN, z1, z2⟩
theorem mh_x_offer (hC : mh_CI h ad σ) {P : Nat → Prop} (hN : mh_Nf h ad P) {s : Nat} (h1 : 1 ≤ s) (h2 : s ≤ 300) : ∃ h', f_X5_offer_e (ad 1026) (nI s) h = some h' ∧ mh_Nf h' ad (fun j => P j ∨ j = s) ∧ mh_CI h' ad σ ∧ mh_frC ad h h' ∧ mh_fr [ad 1027] h h' := by
  obtain ⟨fo, fb, fk, ck, n1, n2, n3, n4, n5⟩ := hN
  have e1 := mh_fx5_offer n1 n2 h1 h2
  have hN : mh_Nf (mh_up h (ad 1027) (.inl (2, 301, .inl (upd fo s 1)))) ad (fun j => P j ∨ j = s) := ⟨_, fb, fk, ck, by rw [mh_up_ne (mh_apt n1 n2 (fun q => by cases q))]; exact n1, mh_up_eq _ _ _, by rw [mh_up_ne (hC.1.ne (by omega) (by omega) (by omega))]; exact n3, n4.keep (mh_up_ne (mh_apt n4.1 n2 (fun q => by cases q))) (mh_up_ne (mh_apt n4.2.1 n2 (fun q => by cases q))), fun j hj => by
    by_cases hjs : j = s
    · rw [hjs, pk_us]; exact mh_bp1 (Or.inr rfl)
    · rw [pk_un hjs]; exact (n5 j hj).iff ⟨Or.inl, fun q => q.elim id (fun q => absurd q hjs)⟩⟩
  obtain ⟨z1, z2⟩ := mh_x_off hC hN (mh_fr.up List.mem_cons_self)
  exact ⟨_, e1, hN, z1, z2, mh_fr.up List.mem_cons_self⟩
theorem mh_x_pick (hC : mh_CI h ad σ) {P : Nat → Prop} (hN : mh_Nf h ad P) : ∃ r h', f_X5_pick_e (ad 1026) h = some (r, h') ∧ ((r = 1 ∧ (mh_pk P 300).length ≤ 12 ∧ ∃ f, mh_Co h' (ad 1029) (ad 1030) f (mh_pk P 300)) ∨ (r = 0 ∧ 12 < (mh_pk P 300).length)) ∧ mh_CI h' ad σ ∧ mh_frC ad h h' ∧ h' (ad 1026) = some (mh_Ns (ad 1027) (ad 1028) (ad 1029)) := by
  obtain ⟨fo, fb, fk, ck, n1, n2, n3, n4, n5⟩ := hN
  obtain ⟨⟨r, h'⟩, e1, e2, ⟨f1, g1, c1, e3, e4, e5⟩, e6⟩ := mh_fx5_pick n1 n2 n3 n4 (hC.1.ne (by omega) (by omega) (by omega)) n5
  have e6 : mh_fr [ad 1028, ad 1029, ad 1030] h h' := e6
  have o1 : h' (ad 1026) = some (mh_Ns (ad 1027) (ad 1028) (ad 1029)) := (e6 _ (by simp [hC.1.ne (show 1026 < 1290 by omega) (show 1028 < 1290 by omega) (by omega), hC.1.ne (show 1026 < 1290 by omega) (show 1029 < 1290 by omega) (by omega), hC.1.ne (show 1026 < 1290 by omega) (show 1030 < 1290 by omega) (by omega)])).trans n1
  have o2 : h' (ad 1027) = some (.inl (2, 301, .inl fo)) := (e6 _ (by simp [hC.1.ne (show 1027 < 1290 by omega) (show 1028 < 1290 by omega) (by omega), hC.1.ne (show 1027 < 1290 by omega) (show 1029 < 1290 by omega) (by omega), hC.1.ne (show 1027 < 1290 by omega) (show 1030 < 1290 by omega) (by omega)])).trans n2
  obtain ⟨z1, z2⟩ := hC.same 5 (by omega) (e6.rg (fun x hx => by
    simp only [List.mem_cons, List.not_mem_nil, or_false] at hx
    rcases hx with q | q | q
    · exact ⟨1028, by decide, by decide, q⟩
    · exact ⟨1029, by decide, by decide, q⟩
    · exact ⟨1030, by decide, by decide, q⟩)) ⟨fo, f1, g1, c1, o1, o2, e3, e4⟩
  exact ⟨r, h', e1, e2, z1, z2, o1⟩
theorem mh_fx5_picked {o a b k : Nat} (e0 : h o = some (mh_Ns a b k)) : f_X5_picked_e o h = some (k, h) := by
  unfold f_X5_picked_e
  rw [mh_gR_eq (k := 2) e0 rfl]
  rfl
/-- what is picked becomes a mint -/
theorem mh_x_become (hC : mh_CI h ad σ) {p : Nat} (hp : p < 8) {f : Nat → Int32} {m : List Nat} (hc : mh_Co h (ad 1029) (ad 1030) f m) (hm : mh_ms m) (ho : h (ad 1026) = some (mh_Ns (ad 1027) (ad 1028) (ad 1029))) : ∃ h', f_X11_becomePicked_e (ad 1289) (nI p) h = some (nI m.length, h') ∧ mh_CI h' ad (mh_setm (mh_bg σ) (mh_nx σ * 8 + p) m) ∧ mh_frC ad h h' := by
  obtain ⟨h1, b1, b2, b3⟩ := mh_x_begin hC
  -- begin leaves the needs alone
  have hn := hC.now
  have hn1 := b2.now
  have kn : ∀ k, 1011 ≤ k → k < 1289 → h1 (ad k) = h (ad k) := fun k k1 k2 => by
    obtain ⟨hA, hS⟩ := hC.A
    have hi := hC.inj (show 1011 ≤ 1290 by omega)
    obtain ⟨h', e1, e2, e3, e4⟩ := mh_fx3_begin hi hA (m := fun i => σ.2.1.1 (σ.1.1 * 8 + i)) (c := fun i => σ.2.1.2.1 (σ.1.1 * 8 + i)) (n := fun i => σ.2.1.2.2 (σ.1.1 * 8 + i)) (fun i hi => (hS _ (by omega)).1) (fun i hi => ⟨_, _, _, (hS ((σ.1.1 + 1) % 21 * 8 + i) (by omega)).1⟩)
    rw [b1] at e1
    cases e1
    exact e4 _ (hC.1.ne (by omega) (by omega) (by omega)) (fun i q q1 q2 => hC.1.ne (by omega) (by omega) (by omega))
  have hc1 := hc.keep (kn 1029 (by omega) (by omega)) (kn 1030 (by omega) (by omega))
  have ho1 := (kn 1026 (by omega) (by omega)).trans ho
  obtain ⟨f2, hm2⟩ := mh_x_mint b2 hp
  have hj : (mh_bg σ).1.1 * 8 + p < 168 := by omega
  obtain ⟨f', y1, y2⟩ := mh_fx1_copy hm2 hc1 hm2.ne (hC.1.ne (by omega) (by omega) (by omega)) (hC.1.ne (by omega) (by omega) (by omega)) (hC.1.ne (by omega) (by omega) (by omega)) (hC.1.ne (by omega) (by omega) (by omega))
  obtain ⟨z1, z2⟩ := b2.mint hj y2 hm (fun b q1 q2 => by rw [mh_up_ne q2, mh_up_ne q1])
  have ho2 : (mh_up (mh_up h1 (ad (6 * ((mh_bg σ).1.1 * 8 + p))) (.inr (1, [.ref (ad (6 * ((mh_bg σ).1.1 * 8 + p) + 1)), .int (nI m.length)]))) (ad (6 * ((mh_bg σ).1.1 * 8 + p) + 1)) (.inl (0, 12, .inl f'))) (ad 1026) = some (mh_Ns (ad 1027) (ad 1028) (ad 1029)) := by rw [mh_up_ne (hC.1.ne (by omega) (by omega) (by omega)), mh_up_ne (hC.1.ne (by omega) (by omega) (by omega))]; exact ho1
  have hc2 := hc1.keep (h' := mh_up (mh_up h1 (ad (6 * ((mh_bg σ).1.1 * 8 + p))) (.inr (1, [.ref (ad (6 * ((mh_bg σ).1.1 * 8 + p) + 1)), .int (nI m.length)]))) (ad (6 * ((mh_bg σ).1.1 * 8 + p) + 1)) (.inl (0, 12, .inl f'))) (by rw [mh_up_ne (hC.1.ne (by omega) (by omega) (by omega)), mh_up_ne (hC.1.ne (by omega) (by omega) (by omega))]) (by rw [mh_up_ne (hC.1.ne (by omega) (by omega) (by omega)), mh_up_ne (hC.1.ne (by omega) (by omega) (by omega))])
  unfold f_X11_becomePicked_e
  rw [mh_gR_eq (k := 0) hC.ob rfl, Option.bind_some, mh_cal_eq hC.A.1.1, b1, Option.bind_some, mh_gR_eq (k := 0) b2.ob rfl, Option.bind_some, mh_cal_eq b2.A.1.1, mh_b2_eq (mh_fx3_mint b2.A.1 hp), mh_gR_eq (k := 5) b2.ob rfl, Option.bind_some, mh_cal_eq ho1, mh_b2_eq (mh_fx5_picked ho1), mh_cal_eq hm2.1, y1, Option.bind_some, mh_gR_eq (k := 5) z1.ob rfl, Option.bind_some, mh_cal_eq ho2, mh_b2_eq (mh_fx5_picked ho2), mh_cal_eq hc2.1, mh_b2_eq (mh_fx1_count hc2)]
  exact ⟨_, rfl, z1, b3.trans z2⟩
theorem mh_pk_ms {P : Nat → Prop} (h : (mh_pk P 300).length ≤ 12) : mh_ms (mh_pk P 300) := ⟨⟨h, fun x hx => by have := mh_pk_in 300 x hx; omega⟩, mh_pk_pw 300⟩
/-- the needed of a list of coins -/
noncomputable def mh_need (cs : List Nat) : List Nat := mh_pk (fun j => j ∈ cs) 300
theorem mh_pk_mem_len {P : Nat → Prop} (cs : List Nat) (hnd : cs.Pairwise (· < ·)) (hP : ∀ x, P x → x ∈ cs) : ∀ n, (mh_pk P n).length ≤ cs.length := by
  intro n
  have sub : ∀ x, x ∈ mh_pk P n → x ∈ cs := fun x hx => hP x (mh_pk_in n x hx).2.2
  have pw := mh_pk_pw (off := P) n
  have key : ∀ (l r : List Nat), l.Pairwise (· < ·) → r.Pairwise (· < ·) → (∀ x, x ∈ l → x ∈ r) → l.length ≤ r.length := by
    intro l
    induction l with
    | nil => intro r _ _ _; exact Nat.zero_le _
    | cons a l ih =>
      intro r h1 h2 h3
      have ha := h3 a List.mem_cons_self
      have h1' := List.pairwise_cons.mp h1
      have := ih (r.erase a) h1'.2 (h2.sublist List.erase_sublist) (fun x hx => (List.mem_erase_of_ne (fun q => by have := h1'.1 x hx; omega)).mpr (h3 x (List.mem_cons_of_mem a hx)))
      rw [List.length_erase_of_mem ha] at this
      have := List.length_pos_of_mem ha
      rw [List.length_cons]
      omega
  exact key _ _ pw hnd sub
end MhNeedA
