/-! asks of one mint -/
def mh_Qm {α : Type} (σ : mh_Sg) (x : Int32) (B : List Nat → Nat ⊕ α → Prop) (r : Nat ⊕ α) : Prop := ((∀ p, p < 8 → x ≠ nI p) ∧ r = .inl 1) ∨ ∃ p, p < 8 ∧ x = nI p ∧ B (σ.2.1.1 (σ.1.1 * 8 + p)) r
theorem mh_Qm_u {α : Type} {σ : mh_Sg} {x : Int32} {B : List Nat → Nat ⊕ α → Prop} {r r' : Nat ⊕ α} (hB : ∀ cs r r', B cs r → B cs r' → r = r') (h : mh_Qm σ x B r) (k : mh_Qm σ x B r') : r = r' := by
  rcases h with ⟨h1, h2⟩ | ⟨p, h1, h2, h3⟩
  · rcases k with ⟨_, k2⟩ | ⟨q, k1, k2, _⟩
    · rw [h2, k2]
    · exact absurd k2 (h1 q k1)
  · rcases k with ⟨k1, _⟩ | ⟨q, k1, k2, k3⟩
    · exact absurd h2 (k1 p h1)
    · rw [h2] at k2
      have e := (nI_eq (by omega) (by omega)).mp k2
      subst e
      exact hB _ _ _ h3 k3
theorem mh_place (x : Int32) : (∃ p, p < 8 ∧ x = nI p) ∨ ∀ p, p < 8 → x ≠ nI p := by
  by_cases h : ∃ p, p < 8 ∧ x = nI p
  · exact Or.inl h
  · exact Or.inr (fun p hp e => h ⟨p, hp, e⟩)
def mh_Bat (x2 : Int32) (cs : List Nat) (r : Nat ⊕ Int32) : Prop := (x2 = -1 ∧ r = .inr (nI cs.length)) ∨ (x2 ≠ -1 ∧ ∃ i, i < cs.length ∧ x2 = nI i ∧ r = .inr (nI (cs.getD i 0))) ∨ (x2 ≠ -1 ∧ (∀ i, i < cs.length → x2 ≠ nI i) ∧ r = .inl 1)
def mh_Bfew (y : Int64) (cs : List Nat) (r : Nat ⊕ Int64) : Prop := (∃ s, s ≤ 1000000000000000 ∧ y = lN s ∧ r = .inr (mh_lz (mh_mn cs s))) ∨ ((∀ s, s ≤ 1000000000000000 → y ≠ lN s) ∧ r = .inl 2)
def mh_Bwith (y : Int64) (x : Int32) (cs : List Nat) (r : Nat ⊕ Int64) : Prop := ((∀ i, i < cs.length → x ≠ nI i) ∧ r = .inl 1) ∨ ∃ i, i < cs.length ∧ x = nI i ∧ ((∃ s, s ≤ 1000000000000000 ∧ y = lN s ∧ ∃ z, mh_wi cs s i z ∧ r = .inr z) ∨ ((∀ s, s ≤ 1000000000000000 → y ≠ lN s) ∧ r = .inl 2))
def mh_Bgy (y : Int64) (cs : List Nat) (r : Nat ⊕ Int64) : Prop := (∃ s, s ≤ 1000000000000000 ∧ y = lN s ∧ r = .inr (mh_gy cs s)) ∨ ((∀ s, s ≤ 1000000000000000 → y ≠ lN s) ∧ r = .inl 2)
def mh_Bst (x : Int32) (cs : List Nat) (r : Nat ⊕ Int32) : Prop := (∃ H, 1 ≤ H ∧ H ≤ 50 ∧ x = nI H ∧ ∃ s, mh_up2 cs H s ∧ r = .inr (nI s)) ∨ ((∀ H, 1 ≤ H → H ≤ 50 → x ≠ nI H) ∧ r = .inl 2)
def mh_Bsp (x y : Int32) (cs : List Nat) (r : Nat ⊕ Int64) : Prop := (∃ a b, a ≤ b ∧ b ≤ 100000 ∧ x = nI a ∧ y = nI b ∧ ∃ z, mh_spn cs a b z ∧ r = .inr z) ∨ ((∀ a b, a ≤ b → b ≤ 100000 → ¬ (x = nI a ∧ y = nI b)) ∧ r = .inl 2)
theorem mh_x_checkSum {h : mh_H} (y : Int64) : (∃ s, s ≤ 1000000000000000 ∧ y = lN s ∧ f_X11_checkSum_e y h = some (.inr (), h)) ∨ ((∀ s, s ≤ 1000000000000000 → y ≠ lN s) ∧ f_X11_checkSum_e y h = some (.inl 2, h)) := by
  unfold f_X11_checkSum_e
  by_cases h0 : y < 0
  · right
    refine ⟨fun s hs e => ?_, ?_⟩
    · rw [e] at h0
      have := (pk_lLT (b := 0) (by omega) (by omega)).mp h0
      omega
    · have c : lg_cmp y (0 : Int64) < 0 := (mh_clt _ _).mpr (fun q => q.elim (fun q => Int64.lt_irrefl (Int64.lt_trans h0 q)) (fun q => by rw [q] at h0; exact Int64.lt_irrefl h0))
      rw [if_pos c]
      rfl
  · obtain ⟨s, s1, s2⟩ := pk_lOf h0
    subst s2
    have c : ¬ lg_cmp (lN s) (0 : Int64) < 0 := fun q => absurd ((mh_cltN (b := 0) s1 (by omega)).mp q) (by omega)
    rw [if_neg c]
    by_cases h1 : s ≤ 1000000000000000
    · left
      have c1 : lg_cmp (lN s) (1000000000000000 : Int64) ≤ 0 := (mh_cleN (b := 1000000000000000) s1 (by omega)).mpr h1
      exact ⟨s, h1, rfl, by rw [if_pos c1]⟩
    · right
      refine ⟨fun t ht e => ?_, ?_⟩
      · have := (mh_lN_inj s1 (by omega)).mp e
        omega
      · rw [if_neg (fun q : lg_cmp (lN s) (1000000000000000 : Int64) ≤ 0 => h1 ((mh_cleN (b := 1000000000000000) s1 (by omega)).mp q))]
        rfl
section MhAsks
variable {h : mh_H} {ad : Nat → Nat} {σ : mh_Sg}
theorem mh_CI.fewest (hC : mh_CI h ad σ) : ∃ c, mh_Fe h (ad 1011) (ad 1012) (ad 1013) (ad 1014) (ad 1015) (ad 1016) c := hC.2 1 (by omega)
/-- Fewest takes a mint -/
theorem mh_x_take (hC : mh_CI h ad σ) {p : Nat} (hp : p < 8) : ∃ h', f_X2_take_e (ad 1011) (ad (6 * (σ.1.1 * 8 + p))) h = some h' ∧ mh_Fe h' (ad 1011) (ad 1012) (ad 1013) (ad 1014) (ad 1015) (ad 1016) (σ.2.1.1 (σ.1.1 * 8 + p)) ∧ mh_CI h' ad σ ∧ mh_frC ad h h' := by
  obtain ⟨c, hF⟩ := hC.fewest
  obtain ⟨f, hc⟩ := mh_x_mint hC hp
  have hn := hC.now
  obtain ⟨h', e1, e2, e3⟩ := mh_fx2_take hF hc (mh_x_ms hC hp) (hC.1.ne (by omega) (by omega) (by omega)) (hC.1.ne (by omega) (by omega) (by omega))
  refine ⟨h', e1, e2, hC.same 1 (by omega) (e3.rg (fun x hx => ?_)) ⟨_, e2⟩⟩
  simp only [List.mem_cons, List.not_mem_nil, or_false] at hx
  rcases hx with q | q | q
  · exact ⟨1011, by decide, by decide, q⟩
  · exact ⟨1012, by decide, by decide, q⟩
  · exact ⟨1013, by decide, by decide, q⟩
theorem mh_x_few (hC : mh_CI h ad σ) {h' : mh_H} {c : List Nat} (hF : mh_Fe h' (ad 1011) (ad 1012) (ad 1013) (ad 1014) (ad 1015) (ad 1016) c) (hf : mh_fr [ad 1011, ad 1014, ad 1015, ad 1016] h h') : mh_CI h' ad σ ∧ mh_frC ad h h' := by
  refine hC.same 1 (by omega) (hf.rg (fun x hx => ?_)) ⟨_, hF⟩
  simp only [List.mem_cons, List.not_mem_nil, or_false] at hx
  rcases hx with q | q | q | q
  · exact ⟨1011, by decide, by decide, q⟩
  · exact ⟨1014, by decide, by decide, q⟩
  · exact ⟨1015, by decide, by decide, q⟩
  · exact ⟨1016, by decide, by decide, q⟩
theorem mh_K_at (hC : mh_CI h ad σ) (x1 x2 : Int32) : ∃ r, f_X11_at_e (ad 1289) x1 x2 h = some (r, h) ∧ mh_Qm σ x1 (mh_Bat x2) r := by
  unfold f_X11_at_e
  rw [mh_cal_eq hC.ob]
  rcases mh_place x1 with ⟨p, p1, p2⟩ | hx
  · subst p2
    obtain ⟨f, hc⟩ := mh_x_mint hC p1
    have hl := hc.2.2.1
    rw [mh_bx_r (mh_x_mintAt hC p1)]
    by_cases c1 : x2 = (-1 : Int32)
    · rw [if_pos c1, mh_cal_eq hc.1, mh_b2_eq (mh_fx1_count hc)]
      exact ⟨_, rfl, Or.inr ⟨p, p1, rfl, Or.inl ⟨c1, rfl⟩⟩⟩
    · rw [if_neg c1]
      rcases mh_x_checkCoin hc x2 with ⟨i, i1, i2, i3⟩ | ⟨i1, i3⟩
      · rw [mh_bx_r i3, i2, mh_cal_eq hc.1, mh_b2_eq (mh_fx1_value hc (by omega))]
        exact ⟨_, rfl, Or.inr ⟨p, p1, rfl, Or.inr (Or.inl ⟨by rw [← i2]; exact c1, i, i1, rfl, rfl⟩)⟩⟩
      · rw [mh_bx_l i3]
        exact ⟨_, rfl, Or.inr ⟨p, p1, rfl, Or.inr (Or.inr ⟨c1, i1, rfl⟩)⟩⟩
  · rw [mh_bx_l (mh_x_mintNo hx)]
    exact ⟨_, rfl, Or.inl ⟨hx, rfl⟩⟩
theorem mh_K_fewest (hC : mh_CI h ad σ) (x1 : Int32) (y : Int64) : ∃ r h', f_X11_fewest_e (ad 1289) x1 y h = some (r, h') ∧ mh_Qm σ x1 (mh_Bfew y) r ∧ mh_CI h' ad σ ∧ mh_frC ad h h' := by
  unfold f_X11_fewest_e
  rw [mh_cal_eq hC.ob]
  rcases mh_place x1 with ⟨p, p1, p2⟩ | hx
  · subst p2
    rw [mh_bx_r (mh_x_mintAt hC p1)]
    rcases mh_x_checkSum (h := h) y with ⟨s, s1, s2, s3⟩ | ⟨s1, s3⟩
    · subst s2
      obtain ⟨h1, t1, t2, t3, t4⟩ := mh_x_take hC p1
      obtain ⟨h2, u1, u2, u3, _⟩ := mh_fx2_size t2 s1
      obtain ⟨v1, v2⟩ := mh_x_few t3 u2 u3
      obtain ⟨c0, hF0⟩ := hC.fewest
      obtain ⟨y0, tn0, o0⟩ := hF0.ob
      obtain ⟨y1, tn1, o1⟩ := t2.ob
      rw [mh_bx_r s3, mh_gR_eq (k := 1) hC.ob rfl, Option.bind_some, mh_cal_eq o0, t1, Option.bind_some, mh_gR_eq (k := 1) t3.ob rfl, Option.bind_some, mh_cal_eq o1, mh_b2_eq u1]
      exact ⟨_, h2, rfl, Or.inr ⟨p, p1, rfl, Or.inl ⟨s, s1, rfl, rfl⟩⟩, v1, t4.trans v2⟩
    · rw [mh_bx_l s3]
      exact ⟨_, h, rfl, Or.inr ⟨p, p1, rfl, Or.inr ⟨s1, rfl⟩⟩, hC, mh_frC.rfl⟩
  · rw [mh_bx_l (mh_x_mintNo hx)]
    exact ⟨_, h, rfl, Or.inl ⟨hx, rfl⟩, hC, mh_frC.rfl⟩
theorem mh_K_with (hC : mh_CI h ad σ) (x1 : Int32) (y : Int64) (x4 : Int32) : ∃ r h', f_X11_with_e (ad 1289) x1 y x4 h = some (r, h') ∧ mh_Qm σ x1 (mh_Bwith y x4) r ∧ mh_CI h' ad σ ∧ mh_frC ad h h' := by
  unfold f_X11_with_e
  rw [mh_cal_eq hC.ob]
  rcases mh_place x1 with ⟨p, p1, p2⟩ | hx
  · subst p2
    obtain ⟨f, hc⟩ := mh_x_mint hC p1
    rw [mh_bx_r (mh_x_mintAt hC p1)]
    rcases mh_x_checkCoin hc x4 with ⟨i, i1, i2, i3⟩ | ⟨i1, i3⟩
    · subst i2
      rw [mh_bx_r i3]
      rcases mh_x_checkSum (h := h) y with ⟨s, s1, s2, s3⟩ | ⟨s1, s3⟩
      · subst s2
        obtain ⟨h1, t1, t2, t3, t4⟩ := mh_x_take hC p1
        obtain ⟨h2, z, u1, u4, u2, u3⟩ := mh_fx2_often t2 i1 s1
        obtain ⟨v1, v2⟩ := mh_x_few t3 u2 u3
        obtain ⟨c0, hF0⟩ := hC.fewest
        obtain ⟨y0, tn0, o0⟩ := hF0.ob
        obtain ⟨y1, tn1, o1⟩ := t2.ob
        rw [mh_bx_r s3, mh_gR_eq (k := 1) hC.ob rfl, Option.bind_some, mh_cal_eq o0, t1, Option.bind_some, mh_gR_eq (k := 1) t3.ob rfl, Option.bind_some, mh_cal_eq o1, mh_b2_eq u1]
        exact ⟨_, h2, rfl, Or.inr ⟨p, p1, rfl, Or.inr ⟨i, i1, rfl, Or.inl ⟨s, s1, rfl, z, u4, rfl⟩⟩⟩, v1, t4.trans v2⟩
      · rw [mh_bx_l s3]
        exact ⟨_, h, rfl, Or.inr ⟨p, p1, rfl, Or.inr ⟨i, i1, rfl, Or.inr ⟨s1, rfl⟩⟩⟩, hC, mh_frC.rfl⟩
    · rw [mh_bx_l i3]
      exact ⟨_, h, rfl, Or.inr ⟨p, p1, rfl, Or.inl ⟨i1, rfl⟩⟩, hC, mh_frC.rfl⟩
  · rw [mh_bx_l (mh_x_mintNo hx)]
    exact ⟨_, h, rfl, Or.inl ⟨hx, rfl⟩, hC, mh_frC.rfl⟩
theorem mh_K_greedy (hC : mh_CI h ad σ) (x1 : Int32) (y : Int64) : ∃ r, f_X11_greedy_e (ad 1289) x1 y h = some (r, h) ∧ mh_Qm σ x1 (mh_Bgy y) r := by
  unfold f_X11_greedy_e
  rw [mh_cal_eq hC.ob]
  rcases mh_place x1 with ⟨p, p1, p2⟩ | hx
  · subst p2
    obtain ⟨f, hc⟩ := mh_x_mint hC p1
    have hms := mh_x_ms hC p1
    rw [mh_bx_r (mh_x_mintAt hC p1)]
    rcases mh_x_checkSum (h := h) y with ⟨s, s1, s2, s3⟩ | ⟨s1, s3⟩
    · subst s2
      rw [mh_bx_r s3, mh_cal_eq hc.1, mh_b2_eq (mh_fx1_greatestFirst hc (fun i hi => (hms.1.get hi).1) (fun i => hms.1.le i) (by omega))]
      exact ⟨_, rfl, Or.inr ⟨p, p1, rfl, Or.inl ⟨s, s1, rfl, rfl⟩⟩⟩
    · rw [mh_bx_l s3]
      exact ⟨_, rfl, Or.inr ⟨p, p1, rfl, Or.inr ⟨s1, rfl⟩⟩⟩
  · rw [mh_bx_l (mh_x_mintNo hx)]
    exact ⟨_, rfl, Or.inl ⟨hx, rfl⟩⟩
theorem mh_K_divisor (hC : mh_CI h ad σ) (x1 : Int32) : ∃ r, f_X11_divisor_e (ad 1289) x1 h = some (r, h) ∧ mh_Qm σ x1 (fun cs r => r = .inr (nI (mh_gd cs 0))) r := by
  unfold f_X11_divisor_e
  rw [mh_cal_eq hC.ob]
  rcases mh_place x1 with ⟨p, p1, p2⟩ | hx
  · subst p2
    obtain ⟨f, hc⟩ := mh_x_mint hC p1
    have hms := mh_x_ms hC p1
    rw [mh_bx_r (mh_x_mintAt hC p1), mh_cal_eq hc.1, mh_b2_eq (mh_fx1_commonDivisor hc (fun i => hms.1.le i))]
    exact ⟨_, rfl, Or.inr ⟨p, p1, rfl, rfl⟩⟩
  · rw [mh_bx_l (mh_x_mintNo hx)]
    exact ⟨_, rfl, Or.inl ⟨hx, rfl⟩⟩
theorem mh_range {x lo hi : Int32} {a b : Nat} (hlo : lo = nI a) (hhi : hi = nI b) (ha : a < 2 ^ 31) (hb : b < 2 ^ 31) : (x < lo ∧ ∀ k, a ≤ k → k ≤ b → x ≠ nI k) ∨ (¬ x < lo ∧ ¬ x ≤ hi ∧ ∀ k, a ≤ k → k ≤ b → x ≠ nI k) ∨ (¬ x < lo ∧ x ≤ hi ∧ ∃ k, a ≤ k ∧ k ≤ b ∧ x = nI k) := by
  subst hlo hhi
  by_cases h1 : x < nI a
  · refine Or.inl ⟨h1, fun k k1 k2 e => ?_⟩
    rw [e] at h1
    have := (nI_ltI (by omega) (by omega)).mp h1
    omega
  · by_cases h2 : x ≤ nI b
    · refine Or.inr (Or.inr ⟨h1, h2, ?_⟩)
      have n0 : ¬ x < 0 := fun q => h1 (Int32.lt_of_lt_of_le q (nI_pos' ha))
      obtain ⟨k, k1, k2⟩ := nI_of n0
      subst k2
      exact ⟨k, Nat.le_of_not_lt (fun q => h1 ((nI_ltI k1 ha).mpr q)), (nI_leI k1 hb).mp h2, rfl⟩
    · refine Or.inr (Or.inl ⟨h1, h2, fun k k1 k2 e => ?_⟩)
      rw [e] at h2
      exact h2 ((nI_leI (by omega) (by omega)).mpr k2)
theorem mh_K_stamps (hC : mh_CI h ad σ) (x1 x2 : Int32) : ∃ r h', f_X11_stamps_e (ad 1289) x1 x2 h = some (r, h') ∧ mh_Qm σ x1 (mh_Bst x2) r ∧ mh_CI h' ad σ ∧ mh_frC ad h h' := by
  unfold f_X11_stamps_e
  rw [mh_cal_eq hC.ob]
  rcases mh_place x1 with ⟨p, p1, p2⟩ | hx
  · subst p2
    rw [mh_bx_r (mh_x_mintAt hC p1)]
    rcases mh_range (x := x2) (lo := 1) (hi := 50) (a := 1) (b := 50) rfl rfl (by omega) (by omega) with ⟨c1, c2⟩ | ⟨c1, c2, c3⟩ | ⟨c1, c2, H, H1, H2, H3⟩
    · rw [if_pos c1]
      exact ⟨_, h, rfl, Or.inr ⟨p, p1, rfl, Or.inr ⟨c2, rfl⟩⟩, hC, mh_frC.rfl⟩
    · rw [if_neg c1, if_neg c2]
      exact ⟨_, h, rfl, Or.inr ⟨p, p1, rfl, Or.inr ⟨c3, rfl⟩⟩, hC, mh_frC.rfl⟩
    · rw [if_neg c1, if_pos c2]
      subst H3
      obtain ⟨h1, t1, t2, t3, t4⟩ := mh_x_take hC p1
      obtain ⟨h2, s, u1, u2, u3, u4, u5⟩ := mh_fx2_allUpTo H2 t2
      obtain ⟨v1, v2⟩ := mh_x_few t3 u4 (u5.sub (by simp))
      obtain ⟨c0, hF0⟩ := hC.fewest
      obtain ⟨y0, tn0, o0⟩ := hF0.ob
      obtain ⟨y1, tn1, o1⟩ := t2.ob
      rw [mh_gR_eq (k := 1) hC.ob rfl, Option.bind_some, mh_cal_eq o0, t1, Option.bind_some, mh_gR_eq (k := 1) t3.ob rfl, Option.bind_some, mh_cal_eq o1, mh_b2_eq u1]
      exact ⟨_, h2, rfl, Or.inr ⟨p, p1, rfl, Or.inl ⟨H, H1, H2, rfl, s, u2, rfl⟩⟩, v1, t4.trans v2⟩
  · rw [mh_bx_l (mh_x_mintNo hx)]
    exact ⟨_, h, rfl, Or.inl ⟨hx, rfl⟩, hC, mh_frC.rfl⟩
theorem mh_K_span (hC : mh_CI h ad σ) (x1 x2 x3 : Int32) : ∃ r h', f_X11_span_e (ad 1289) x1 x2 x3 h = some (r, h') ∧ mh_Qm σ x1 (mh_Bsp x2 x3) r ∧ mh_CI h' ad σ ∧ mh_frC ad h h' := by
  unfold f_X11_span_e
  rw [mh_cal_eq hC.ob]
  rcases mh_place x1 with ⟨p, p1, p2⟩ | hx
  · subst p2
    rw [mh_bx_r (mh_x_mintAt hC p1)]
    have bad : (∀ a b, a ≤ b → b ≤ 100000 → ¬ (x2 = nI a ∧ x3 = nI b)) → ∃ r h', (some (Sum.inl 2, h) : Option ((Nat ⊕ Int64) × mh_H)) = some (r, h') ∧ mh_Qm σ (nI p) (mh_Bsp x2 x3) r ∧ mh_CI h' ad σ ∧ mh_frC ad h h' := fun hb => ⟨_, h, rfl, Or.inr ⟨p, p1, rfl, Or.inr ⟨hb, rfl⟩⟩, hC, mh_frC.rfl⟩
    by_cases c1 : x2 < 0
    · rw [if_pos c1]
      refine bad (fun a b ab bb e => ?_)
      rw [e.1] at c1
      exact nI_pos (by omega) c1
    · rw [if_neg c1]
      obtain ⟨a, a1, a2⟩ := nI_of c1
      subst a2
      by_cases c2 : x3 < nI a
      · rw [if_pos c2]
        refine bad (fun a' b ab bb e => ?_)
        have e1 := (nI_eq a1 (by omega)).mp e.1
        rw [e.2] at c2
        have := (nI_ltI (by omega) a1).mp c2
        omega
      · rw [if_neg c2]
        have n3 : ¬ x3 < 0 := fun q => c2 (Int32.lt_of_lt_of_le q (nI_pos' a1))
        obtain ⟨b, b1, b2⟩ := nI_of n3
        subst b2
        have hab : a ≤ b := Nat.le_of_not_lt (fun q => c2 ((nI_ltI b1 a1).mpr q))
        by_cases c3 : b ≤ 100000
        · rw [if_pos ((mh_ler (b := 100000) 100000 rfl b1 (by omega)).mpr c3)]
          obtain ⟨h1, t1, t2, t3, t4⟩ := mh_x_take hC p1
          obtain ⟨h2, z, u1, u2, u3, u4⟩ := mh_fx2_together t2 hab c3
          obtain ⟨v1, v2⟩ := mh_x_few t3 u3 u4
          obtain ⟨c0, hF0⟩ := hC.fewest
          obtain ⟨y0, tn0, o0⟩ := hF0.ob
          obtain ⟨y1, tn1, o1⟩ := t2.ob
          rw [mh_gR_eq (k := 1) hC.ob rfl, Option.bind_some, mh_cal_eq o0, t1, Option.bind_some, mh_gR_eq (k := 1) t3.ob rfl, Option.bind_some, mh_cal_eq o1, mh_b2_eq u1]
          exact ⟨_, h2, rfl, Or.inr ⟨p, p1, rfl, Or.inl ⟨a, b, hab, c3, rfl, rfl, z, u2, rfl⟩⟩, v1, t4.trans v2⟩
        · rw [if_neg (fun q => c3 ((mh_ler (b := 100000) 100000 rfl b1 (by omega)).mp q))]
          refine bad (fun a' b' ab bb e => ?_)
          have e1 := (nI_eq b1 (by omega)).mp e.2
          omega
  · rw [mh_bx_l (mh_x_mintNo hx)]
    exact ⟨_, h, rfl, Or.inl ⟨hx, rfl⟩, hC, mh_frC.rfl⟩
end MhAsks
