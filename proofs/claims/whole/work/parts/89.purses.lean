/-! purses -/
def mh_pc (σ : mh_Sg) (p : Nat) : List Nat := σ.2.1.2.1 (σ.1.1 * 8 + p)
def mh_pn (σ : mh_Sg) (p : Nat) : List Nat := σ.2.1.2.2 (σ.1.1 * 8 + p)
def mh_Sopen (σ : mh_Sg) (x1 x2 : Int32) (r : Nat ⊕ Unit) (σ' : mh_Sg) : Prop := (∃ p q, p < 8 ∧ q < 8 ∧ x1 = nI p ∧ x2 = nI q ∧ r = .inr () ∧ σ' = mh_setp (mh_bg σ) (mh_nx σ * 8 + p) (mh_mi σ q) (List.replicate (mh_mi σ q).length 0)) ∨ ((∀ p q, p < 8 → q < 8 → ¬ (x1 = nI p ∧ x2 = nI q)) ∧ r = .inl 1 ∧ σ' = σ)
def mh_Pfill (c n : List Nat) (x2 x3 : Int32) (i k : Nat) : Prop := i < c.length ∧ k ≤ 20 ∧ x2 = nI (c.getD i 0) ∧ x3 = nI k ∧ mh_dot c (n.set i k) ≤ 20000
def mh_Sfill (σ : mh_Sg) (x1 x2 x3 : Int32) (r : Nat ⊕ Int32) (σ' : mh_Sg) : Prop := (∃ p, p < 8 ∧ x1 = nI p ∧ ((∃ i k, mh_Pfill (mh_pc σ p) (mh_pn σ p) x2 x3 i k ∧ r = .inr (nI ((mh_pn σ p).getD i 0)) ∧ σ' = mh_setp (mh_bg σ) (mh_nx σ * 8 + p) (mh_pc σ p) ((mh_pn σ p).set i k)) ∨ ((∀ i k, ¬ mh_Pfill (mh_pc σ p) (mh_pn σ p) x2 x3 i k) ∧ r = .inr (-1) ∧ σ' = σ))) ∨ ((∀ p, p < 8 → x1 ≠ nI p) ∧ r = .inl 1 ∧ σ' = σ)
def mh_Qp {α : Type} (σ : mh_Sg) (x : Int32) (B : List Nat → List Nat → Nat ⊕ α → Prop) (r : Nat ⊕ α) : Prop := ((∀ p, p < 8 → x ≠ nI p) ∧ r = .inl 1) ∨ ∃ p, p < 8 ∧ x = nI p ∧ B (mh_pc σ p) (mh_pn σ p) r
def mh_Bhas (x : Int32) (c n : List Nat) (r : Nat ⊕ Int32) : Prop := (x = -1 ∧ r = .inr (nI c.length)) ∨ (x = -2 ∧ r = .inr (nI (mh_dot c n))) ∨ (∃ i, i < c.length ∧ x = nI i ∧ r = .inr (nI (n.getD i 0))) ∨ (∃ i, i < c.length ∧ x = -3 - nI i ∧ r = .inr (nI (c.getD i 0))) ∨ (x ≠ -1 ∧ x ≠ -2 ∧ (∀ i, i < c.length → x ≠ nI i ∧ x ≠ -3 - nI i) ∧ r = .inl 1)
def mh_Bpays (x : Int32) (c n : List Nat) (r : Nat ⊕ Int32) : Prop := (∃ s ks, s < 2 ^ 31 ∧ x = nI s ∧ mh_bv c n s ks ∧ r = .inr (nI ks.sum)) ∨ ((∀ s ks, s < 2 ^ 31 → x = nI s → ¬ mh_vp c n s ks) ∧ r = .inr (-1))
def mh_Bholes (c n : List Nat) (r : Nat ⊕ Int32) : Prop := r = .inr (nI (mh_cn (fun s => ∀ ks, ¬ mh_vp c n s ks) (mh_dot c n + 1)))
theorem mh_dot_rep : ∀ (c : List Nat) (k : Nat), mh_dot c (List.replicate k 0) = 0 := by
  intro c
  induction c with
  | nil => intro k; cases k <;> rfl
  | cons x c ih =>
    intro k
    cases k with
    | zero => rfl
    | succ k =>
      rw [List.replicate_succ, mh_dot, ih]
      omega
theorem mh_dot_set : ∀ (c n : List Nat) (i k : Nat), i < c.length → n.length = c.length → mh_dot c (n.set i k) + n.getD i 0 * c.getD i 0 = mh_dot c n + k * c.getD i 0 := by
  intro c
  induction c with
  | nil => intro n i k hi; exact absurd hi (Nat.not_lt_zero i)
  | cons x c ih =>
    intro n i k hi hn
    cases n with
    | nil => exact absurd hn (by simp)
    | cons y n =>
      cases i with
      | zero =>
        show k * x + mh_dot c n + y * x = y * x + mh_dot c n + k * x
        omega
      | succ i =>
        have := ih n i k (by simpa using hi) (by simpa using hn)
        show y * x + mh_dot c (n.set i k) + n.getD i 0 * c.getD i 0 = y * x + mh_dot c n + k * c.getD i 0
        omega
theorem mh_get_le {c n : List Nat} {i : Nat} (hi : i < c.length) (hn : n.length = c.length) : n.getD i 0 * c.getD i 0 ≤ mh_dot c n := by
  have := mh_dot_set c n i 0 hi hn
  omega
theorem mh_fillI {D k a c : Nat} (h : a * c ≤ D) : nI D + (nI k - nI a) * nI c = nI (D + k * c - a * c) := by
  rw [Int32.sub_mul, mh_nI_mul, mh_nI_mul, ← pk_sub (show a * c ≤ D + k * c by omega), ← nI_add, Int32.sub_eq_add_neg, Int32.sub_eq_add_neg, Int32.add_assoc]
section MhPurseC
variable {h : mh_H} {ad : Nat → Nat} {σ : mh_Sg}
theorem mh_pz_rep {m : List Nat} (hm : mh_ms m) : mh_pz m (List.replicate m.length 0) := ⟨hm, List.length_replicate, fun j => by
  rw [List.getD_eq_getElem?_getD, List.getElem?_replicate]
  split <;> exact Nat.zero_le _, by rw [mh_dot_rep]; exact Nat.zero_le _⟩
theorem mh_K_open (hC : mh_CI h ad σ) (x1 x2 : Int32) : ∃ r h' σ', f_X11_open_e (ad 1289) x1 x2 h = some (r, h') ∧ mh_Sopen σ x1 x2 r σ' ∧ mh_CI h' ad σ' ∧ mh_frC ad h h' := by
  unfold f_X11_open_e
  rw [mh_cal_eq hC.ob]
  rcases mh_place x1 with ⟨p, p1, p2⟩ | hx
  · rcases mh_place x2 with ⟨q, q1, q2⟩ | hy
    · subst p2 q2
      have ne : ∀ {x y : Nat}, x < 1290 → y < 1290 → x ≠ y → ad x ≠ ad y := fun h1 h2 h3 => hC.1.ne h1 h2 h3
      obtain ⟨h1, b1, b2, b3⟩ := mh_x_begin hC
      have hn1 := b2.now
      obtain ⟨f, g, hp⟩ := mh_x_purse b2 p1
      obtain ⟨fm, hm⟩ := mh_x_mint b2 q1
      have em : (mh_bg σ).2.1.1 ((mh_bg σ).1.1 * 8 + q) = mh_mi σ q := mh_cp_at (σ := σ) (f := σ.2.1.1) q1
      rw [em] at hm
      obtain ⟨h3, f', g', r1, r2, r3⟩ := mh_fx7_refit hp hm (ne (by omega) (by omega) (by omega)) (ne (by omega) (by omega) (by omega)) (ne (by omega) (by omega) (by omega)) (ne (by omega) (by omega) (by omega)) (ne (by omega) (by omega) (by omega)) (ne (by omega) (by omega) (by omega)) (ne (by omega) (by omega) (by omega)) (ne (by omega) (by omega) (by omega)) (ne (by omega) (by omega) (by omega)) (ne (by omega) (by omega) (by omega))
      obtain ⟨z1, z2⟩ := b2.purse (h' := h3) (by omega) r2 (mh_pz_rep (mh_x_ms hC q1)) (fun b hb => by
        simp only [List.mem_cons, List.not_mem_nil, or_false, not_or] at hb
        exact r3 b hb.2.1 hb.2.2.1 hb.2.2.2)
      rw [mh_bx_r (mh_x_purseAt hC p1), mh_cal_eq hC.ob, mh_bx_r (mh_x_mintAt hC q1), mh_gR_eq (k := 0) hC.ob rfl, Option.bind_some, mh_cal_eq hC.A.1.1, b1, Option.bind_some, mh_gR_eq (k := 0) b2.ob rfl, Option.bind_some, mh_cal_eq b2.A.1.1, mh_b2_eq (mh_fx3_purse b2.A.1 p1), mh_gR_eq (k := 0) b2.ob rfl, Option.bind_some, mh_cal_eq b2.A.1.1, mh_b2_eq (mh_fx3_mint b2.A.1 q1), mh_cal_eq hp.1, r1, Option.bind_some]
      exact ⟨_, h3, _, rfl, Or.inl ⟨p, q, p1, q1, rfl, rfl, rfl, rfl⟩, z1, b3.trans z2⟩
    · subst p2
      rw [mh_bx_r (mh_x_purseAt hC p1), mh_cal_eq hC.ob, mh_bx_l (mh_x_mintNo hy)]
      exact ⟨_, h, σ, rfl, Or.inr ⟨fun _ b _ hb q => hy b hb q.2, rfl, rfl⟩, hC, mh_frC.rfl⟩
  · rw [mh_bx_l (mh_x_purseNo hx)]
    exact ⟨_, h, σ, rfl, Or.inr ⟨fun a _ ha _ q => hx a ha q.1, rfl, rfl⟩, hC, mh_frC.rfl⟩
theorem mh_K_fill (hC : mh_CI h ad σ) (x1 x2 x3 : Int32) : ∃ r h' σ', f_X11_fill_e (ad 1289) x1 x2 x3 h = some (r, h') ∧ mh_Sfill σ x1 x2 x3 r σ' ∧ mh_CI h' ad σ' ∧ mh_frC ad h h' := by
  unfold f_X11_fill_e
  rw [mh_cal_eq hC.ob]
  rcases mh_place x1 with ⟨p, p1, p2⟩ | hx
  · subst p2
    have ne : ∀ {x y : Nat}, x < 1290 → y < 1290 → x ≠ y → ad x ≠ ad y := fun h1 h2 h3 => hC.1.ne h1 h2 h3
    obtain ⟨f, g, hp⟩ := mh_x_purse hC p1
    have hz : mh_pz (mh_pc σ p) (mh_pn σ p) := mh_x_pz hC p1
    obtain ⟨z1, z2, z3, z4⟩ := hz
    have hp : mh_Pu h (ad (6 * (σ.1.1 * 8 + p) + 2)) (ad (6 * (σ.1.1 * 8 + p) + 3)) (ad (6 * (σ.1.1 * 8 + p) + 4)) (ad (6 * (σ.1.1 * 8 + p) + 5)) f g (mh_pc σ p) (mh_pn σ p) := hp
    have hl := z1.1.1
    have bad : ∀ (hb : ∀ i k, ¬ mh_Pfill (mh_pc σ p) (mh_pn σ p) x2 x3 i k), ∃ r h' σ', f_X11_fill_b29 h = some (r, h') ∧ mh_Sfill σ (nI p) x2 x3 r σ' ∧ mh_CI h' ad σ' ∧ mh_frC ad h h' := fun hb => ⟨_, h, σ, rfl, Or.inl ⟨p, p1, rfl, Or.inr ⟨hb, rfl, rfl⟩⟩, hC, mh_frC.rfl⟩
    rw [mh_bx_r (mh_x_purseAt hC p1), mh_cal_eq hp.1, mh_b2_eq (mh_fx7_coins hp), mh_cal_eq hp.2.1.1, mh_b2_eq (mh_fx1_holds hp.2.1 x2)]
    by_cases hh : mh_hd (mh_pc σ p) x2 = true
    · rw [if_pos hh, if_neg (by decide)]
      obtain ⟨i, i1, i2⟩ := (mh_hd_ex z1 x2).mp hh
      rcases mh_range (x := x3) (lo := 0) (hi := 20) (a := 0) (b := 20) rfl rfl (by omega) (by omega) with ⟨r1, r2⟩ | ⟨r1, r2, r3⟩ | ⟨r1, r2, k, r3, r4, r5⟩
      · rw [if_pos r1]
        exact bad (fun i k hb => r2 k (Nat.zero_le _) hb.2.1 hb.2.2.2.1)
      · rw [if_neg r1, if_neg r2]
        exact bad (fun i k hb => r3 k (Nat.zero_le _) hb.2.1 hb.2.2.2.1)
      · subst r5 i2
        have gi := z1.1.get i1
        have ds := mh_dot_set (mh_pc σ p) (mh_pn σ p) i k i1 z2
        have gl := mh_get_le (c := mh_pc σ p) (n := mh_pn σ p) i1 z2
        have hk3 : k * (mh_pc σ p).getD i 0 ≤ 20 * 300 := Nat.mul_le_mul r4 gi.2
        have ed : mh_dot (mh_pc σ p) (mh_pn σ p) + k * (mh_pc σ p).getD i 0 - (mh_pn σ p).getD i 0 * (mh_pc σ p).getD i 0 = mh_dot (mh_pc σ p) ((mh_pn σ p).set i k) := by omega
        have hpf : mh_pf (mh_pc σ p) (nI ((mh_pc σ p).getD i 0)) = i := mh_pf_get z1 i1
        rw [if_neg r1, if_pos r2, mh_cal_eq hp.1, mh_b2_eq (mh_fx7_coins hp), mh_cal_eq hp.2.1.1, mh_b2_eq (mh_fx1_placeFor hp.2.1 _), hpf, mh_cal_eq hp.1, mh_b2_eq (mh_fx7_often hp (by omega)), mh_cal_eq hp.1, mh_b2_eq (mh_fx7_total hp), mh_fillI gl, ed]
        by_cases hle : mh_dot (mh_pc σ p) ((mh_pn σ p).set i k) ≤ 20000
        · obtain ⟨h1, b1, b2, b3⟩ := mh_x_begin hC
          have hn1 := b2.now
          obtain ⟨f1, g1, hp1⟩ := mh_x_purse b2 p1
          have e1 : (mh_bg σ).2.1.2.1 ((mh_bg σ).1.1 * 8 + p) = mh_pc σ p := mh_cp_at (σ := σ) (f := σ.2.1.2.1) p1
          have e2 : (mh_bg σ).2.1.2.2 ((mh_bg σ).1.1 * 8 + p) = mh_pn σ p := mh_cp_at (σ := σ) (f := σ.2.1.2.2) p1
          rw [e1, e2] at hp1
          obtain ⟨y1, y2⟩ := mh_fx7_set hp1 (ne (by omega) (by omega) (by omega)) (ne (by omega) (by omega) (by omega)) (ne (by omega) (by omega) (by omega)) i1 k
          obtain ⟨w1, w2⟩ := b2.purse (by omega) y2 ⟨z1, by rw [List.length_set]; exact z2, fun j => by
            rw [List.getD_eq_getElem?_getD, List.getElem?_set]
            have hj := z3 j
            rw [List.getD_eq_getElem?_getD] at hj
            split
            · split
              · exact r4
              · exact Nat.zero_le _
            · exact hj, hle⟩ (mh_fr.up (by simp))
          rw [if_pos ((mh_ler (b := 20000) 20000 rfl (by omega) (by omega)).mpr hle), mh_gR_eq (k := 0) hC.ob rfl, Option.bind_some, mh_cal_eq hC.A.1.1, b1, Option.bind_some, mh_gR_eq (k := 0) b2.ob rfl, Option.bind_some, mh_cal_eq b2.A.1.1, mh_b2_eq (mh_fx3_purse b2.A.1 p1), mh_cal_eq hp1.1, y1, Option.bind_some]
          exact ⟨_, _, _, rfl, Or.inl ⟨p, p1, rfl, Or.inl ⟨i, k, ⟨i1, r4, rfl, rfl, hle⟩, rfl, rfl⟩⟩, w1, b3.trans w2⟩
        · rw [if_neg (fun q => hle ((mh_ler (b := 20000) 20000 rfl (by omega) (by omega)).mp q))]
          refine ⟨_, h, σ, rfl, Or.inl ⟨p, p1, rfl, Or.inr ⟨fun i' k' hb => ?_, rfl, rfl⟩⟩, hC, mh_frC.rfl⟩
          obtain ⟨t1, t2, t3, t4, t5⟩ := hb
          have g' := z1.1.get t1
          have ek := (nI_eq (by omega) (by omega)).mp t4
          have ev := (nI_eq (by omega) (by omega)).mp t3
          have ei : i = i' := by rw [← mh_pf_get z1 i1, ← mh_pf_get z1 t1, ev]
          subst ek ei
          exact hle t5
    · rw [if_neg hh, if_pos rfl]
      exact bad (fun i k hb => hh ((mh_hd_ex z1 x2).mpr ⟨i, hb.1, hb.2.2.1⟩))
  · rw [mh_bx_l (mh_x_purseNo hx)]
    exact ⟨_, h, σ, rfl, Or.inr ⟨hx, rfl, rfl⟩, hC, mh_frC.rfl⟩
end MhPurseC
