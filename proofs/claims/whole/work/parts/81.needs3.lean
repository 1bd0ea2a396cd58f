def mh_nb (cs nd : List Nat) : Nat → Int32
  | 0 => 0
  | i + 1 => if cs.getD i 0 ∈ nd then mh_nb cs nd i ||| ((1 : Int32) <<< (nI i &&& 31)) else mh_nb cs nd i
/-- a mint becomes what P says, or nothing changes -/
def mh_Sbec (σ : mh_Sg) (p : Nat) (ok : Prop) (m : List Nat) (r : Nat ⊕ Int32) (σ' : mh_Sg) : Prop := (ok ∧ r = .inr (nI m.length) ∧ σ' = mh_setm (mh_bg σ) (mh_nx σ * 8 + p) m) ∨ (¬ ok ∧ r = .inr (-1) ∧ σ' = σ)
def mh_mi (σ : mh_Sg) (p : Nat) : List Nat := σ.2.1.1 (σ.1.1 * 8 + p)
def mh_Sjoin (σ : mh_Sg) (x1 x2 x3 : Int32) (r : Nat ⊕ Int32) (σ' : mh_Sg) : Prop := (∃ a b p, a < 8 ∧ b < 8 ∧ p < 8 ∧ x1 = nI a ∧ x2 = nI b ∧ x3 = nI p ∧ mh_Sbec σ p ((mh_pk (fun j => j ∈ mh_mi σ a ∨ j ∈ mh_mi σ b) 300).length ≤ 12) (mh_pk (fun j => j ∈ mh_mi σ a ∨ j ∈ mh_mi σ b) 300) r σ') ∨ ((∀ a b p, a < 8 → b < 8 → p < 8 → ¬ (x1 = nI a ∧ x2 = nI b ∧ x3 = nI p)) ∧ r = .inl 1 ∧ σ' = σ)
def mh_both (a b : List Nat) (j : Nat) : Prop := mh_py a j ∧ mh_py b j
def mh_okp (P : Nat → Prop) : Prop := (mh_pk P 300).length ≤ 12 ∧ ∀ s, P s → mh_py (mh_pk P 300) s
def mh_Spart (σ : mh_Sg) (x1 x2 x3 : Int32) (r : Nat ⊕ Int32) (σ' : mh_Sg) : Prop := (∃ a b p, a < 8 ∧ b < 8 ∧ p < 8 ∧ x1 = nI a ∧ x2 = nI b ∧ x3 = nI p ∧ mh_Sbec σ p (mh_okp (mh_both (mh_mi σ a) (mh_mi σ b))) (mh_pk (mh_both (mh_mi σ a) (mh_mi σ b)) 300) r σ') ∨ ((∀ a b p, a < 8 → b < 8 → p < 8 → ¬ (x1 = nI a ∧ x2 = nI b ∧ x3 = nI p)) ∧ r = .inl 1 ∧ σ' = σ)
def mh_Sfac (σ : mh_Sg) (x1 x2 x3 : Int32) (r : Nat ⊕ Int32) (σ' : mh_Sg) : Prop := (∃ a p, a < 8 ∧ p < 8 ∧ x1 = nI a ∧ x3 = nI p ∧ ((∃ d, 1 ≤ d ∧ d ≤ 300 ∧ x2 = nI d ∧ mh_Sbec σ p ((mh_pk (fun s => mh_py (mh_mi σ a) (d * s)) 300).length ≤ 12) (mh_pk (fun s => mh_py (mh_mi σ a) (d * s)) 300) r σ') ∨ ((∀ d, 1 ≤ d → d ≤ 300 → x2 ≠ nI d) ∧ r = .inl 2 ∧ σ' = σ))) ∨ ((∀ a p, a < 8 → p < 8 → ¬ (x1 = nI a ∧ x3 = nI p)) ∧ r = .inl 1 ∧ σ' = σ)
theorem mh_pk_or {cs : List Nat} : mh_pk (fun j => False ∨ j ∈ cs) 300 = mh_need cs := mh_pk_congr 300 (fun x _ _ => ⟨fun q => q.elim False.elim id, Or.inr⟩)
theorem mh_need_len {cs : List Nat} (h : mh_ms cs) : (mh_need cs).length ≤ 12 := Nat.le_trans (mh_pk_mem_len cs h.2 (fun _ q => q) 300) h.1.1
section MhNeedB
variable {h : mh_H} {ad : Nat → Nat} {σ : mh_Sg}
/-- the needed coins of one mint -/
theorem mh_x_need (hC : mh_CI h ad σ) {p : Nat} (hp : p < 8) : ∃ h1 h2 h3 f, f_X5_clear_e (ad 1026) h = some h1 ∧ f_X5_offerAll_e (ad 1026) (ad (6 * (σ.1.1 * 8 + p))) h1 = some h2 ∧ f_X5_pick_e (ad 1026) h2 = some (1, h3) ∧ mh_Co h3 (ad 1029) (ad 1030) f (mh_need (mh_mi σ p)) ∧ mh_CI h1 ad σ ∧ mh_CI h2 ad σ ∧ mh_CI h3 ad σ ∧ mh_frC ad h h3 ∧ (∀ hh, hh = h ∨ hh = h1 ∨ hh = h2 ∨ hh = h3 → hh (ad 1026) = some (mh_Ns (ad 1027) (ad 1028) (ad 1029))) := by
  obtain ⟨fo, fb, fk, ck, n1, _⟩ := hC.2 5 (by omega)
  obtain ⟨h1, a1, a2, a3, a4⟩ := mh_x_clear hC
  obtain ⟨h2, b1, b2, b3, b4⟩ := mh_x_offerAll a3 a2 hp
  obtain ⟨r, h3, c1, c2, c3, c4, c5⟩ := mh_x_pick b3 b2
  have hms := mh_x_ms hC hp
  have e : mh_pk (fun j => False ∨ j ∈ σ.2.1.1 (σ.1.1 * 8 + p)) 300 = mh_need (mh_mi σ p) := mh_pk_or
  rw [e] at c2
  have hl := mh_need_len hms
  have hl : (mh_need (mh_mi σ p)).length ≤ 12 := hl
  rcases c2 with ⟨d1, d2, f, d3⟩ | ⟨d1, d2⟩
  · subst d1
    obtain ⟨_, _, _, _, m1, _⟩ := a2
    obtain ⟨_, _, _, _, m2, _⟩ := b2
    refine ⟨h1, h2, h3, f, a1, b1, c1, d3, a3, b3, c3, a4.trans (b4.trans c4), fun hh q => ?_⟩
    rcases q with q | q | q | q
    · rw [q]; exact n1
    · rw [q]; exact m1
    · rw [q]; exact m2
    · rw [q]; exact c5
  · omega
theorem mh_K_needed (hC : mh_CI h ad σ) (x1 : Int32) : ∃ r h', f_X11_needed_e (ad 1289) x1 h = some (r, h') ∧ mh_Qm σ x1 (fun cs r => r = .inr (mh_nb cs (mh_need cs) cs.length)) r ∧ mh_CI h' ad σ ∧ mh_frC ad h h' := by
  unfold f_X11_needed_e
  rw [mh_cal_eq hC.ob]
  rcases mh_place x1 with ⟨p, p1, p2⟩ | hx
  · subst p2
    obtain ⟨h1, h2, h3, f, a1, a2, a3, a4, a5, a6, a7, a8, a9⟩ := mh_x_need hC p1
    have hms := mh_x_ms hC p1
    have hl := hms.1.1
    obtain ⟨f3, hc3⟩ := mh_x_mint a7 p1
    have o3 := a9 h3 (Or.inr (Or.inr (Or.inr rfl)))
    have nms : mh_ms (mh_need (mh_mi σ p)) := mh_pk_ms (mh_need_len hms)
    rw [mh_bx_r (mh_x_mintAt hC p1), mh_gR_eq (k := 5) hC.ob rfl, Option.bind_some, mh_cal_eq (a9 h (Or.inl rfl)), a1, Option.bind_some, mh_gR_eq (k := 5) a5.ob rfl, Option.bind_some, mh_cal_eq (a9 h1 (Or.inr (Or.inl rfl))), a2, Option.bind_some, mh_gR_eq (k := 5) a6.ob rfl, Option.bind_some, mh_cal_eq (a9 h2 (Or.inr (Or.inr (Or.inl rfl)))), mh_b2_eq a3, mh_nm_eq, mh_nm_eq]
    show ∃ r h', f_X11_needed_b34 mh_fu (ad 1289) (ad (6 * (σ.1.1 * 8 + p))) 0 0 h3 = _ ∧ _
    have key := mh_wh (fun n (i : Nat) => f_X11_needed_b34 n (ad 1289) (ad (6 * (σ.1.1 * 8 + p))) (mh_nb (mh_mi σ p) (mh_need (mh_mi σ p)) i) (nI i) h3) (fun (r : (Nat ⊕ Int32) × mh_H) => some r) (fun i => i ≤ (mh_mi σ p).length) (fun i => (mh_mi σ p).length - i) (fun r => r = (.inr (mh_nb (mh_mi σ p) (mh_need (mh_mi σ p)) (mh_mi σ p).length), h3))
      (fun n i hi => by
        show (∃ s', _ ∧ _ ∧ f_X11_needed_b34 (n + 1) (ad 1289) (ad (6 * (σ.1.1 * 8 + p))) (mh_nb (mh_mi σ p) (mh_need (mh_mi σ p)) i) (nI i) h3 = _) ∨ ∃ r, _ ∧ f_X11_needed_b34 (n + 1) (ad 1289) (ad (6 * (σ.1.1 * 8 + p))) (mh_nb (mh_mi σ p) (mh_need (mh_mi σ p)) i) (nI i) h3 = _
        have hl : (mh_mi σ p).length ≤ 12 := hl
        have hc3 : mh_Co h3 (ad (6 * (σ.1.1 * 8 + p))) (ad (6 * (σ.1.1 * 8 + p) + 1)) f3 (mh_mi σ p) := hc3
        by_cases hlt : i < (mh_mi σ p).length
        · left
          refine ⟨i + 1, hlt, by omega, ?_⟩
          have hle : (mh_mi σ p).getD i 0 ≤ 300 := hms.1.le i
          rw [f_X11_needed_b34, mh_cal_eq hc3.1, mh_b2_eq (mh_fx1_count hc3), if_neg (fun q => absurd ((nI_leI (by omega) (by omega)).mp q) (by omega)), mh_gR_eq (k := 5) a7.ob rfl, Option.bind_some, mh_cal_eq o3, mh_b2_eq (mh_fx5_picked o3), mh_cal_eq hc3.1, mh_b2_eq (mh_fx1_value hc3 (by omega)), mh_cal_eq a4.1, mh_b2_eq (mh_fx1_holds a4 _), mh_nb]
          by_cases hq : (mh_mi σ p).getD i 0 ∈ mh_need (mh_mi σ p)
          · rw [if_pos ((mh_hd_iff nms (by omega)).mpr hq), if_neg (by decide), if_pos hq, mh_nm_eq]
            unfold f_X11_needed_b69
            rw [mh_nm_eq, mh_inc]
          · rw [if_neg (fun c => hq ((mh_hd_iff nms (by omega)).mp c)), if_pos rfl, if_neg hq]
            unfold f_X11_needed_b69
            rw [mh_nm_eq, mh_inc]
        · right
          have e : i = (mh_mi σ p).length := by omega
          refine ⟨_, rfl, ?_⟩
          rw [f_X11_needed_b34, mh_cal_eq hc3.1, mh_b2_eq (mh_fx1_count hc3), if_pos ((nI_leI (by omega) (by omega)).mpr (by omega)), e]
          rfl)
      12 mh_fu 0 (by have hl : (mh_mi σ p).length ≤ 12 := hl; omega) (Nat.zero_le _) (mh_fuel _ (by omega))
    obtain ⟨r, z1, z2⟩ := key
    rw [z1] at z2
    exact ⟨_, h3, z2, Or.inr ⟨p, p1, rfl, rfl⟩, a7, a8⟩
  · rw [mh_bx_l (mh_x_mintNo hx)]
    exact ⟨_, h, rfl, Or.inl ⟨hx, rfl⟩, hC, mh_frC.rfl⟩
def mh_Ssame (σ : mh_Sg) (x1 x2 : Int32) (r : Nat ⊕ Int32) : Prop := (∃ a b, a < 8 ∧ b < 8 ∧ x1 = nI a ∧ x2 = nI b ∧ ((mh_need (mh_mi σ a) = mh_need (mh_mi σ b) ∧ r = .inr 1) ∨ (mh_need (mh_mi σ a) ≠ mh_need (mh_mi σ b) ∧ r = .inr 0))) ∨ ((∀ a b, a < 8 → b < 8 → ¬ (x1 = nI a ∧ x2 = nI b)) ∧ r = .inl 1)
theorem mh_K_same (hC : mh_CI h ad σ) (x1 x2 : Int32) : ∃ r h', f_X11_same_e (ad 1289) x1 x2 h = some (r, h') ∧ mh_Ssame σ x1 x2 r ∧ mh_CI h' ad σ ∧ mh_frC ad h h' := by
  unfold f_X11_same_e
  rw [mh_cal_eq hC.ob]
  rcases mh_place x1 with ⟨p, p1, p2⟩ | hx
  · rcases mh_place x2 with ⟨q, q1, q2⟩ | hy
    · subst p2 q2
      obtain ⟨h1, h2, h3, f, a1, a2, a3, a4, a5, a6, a7, a8, a9⟩ := mh_x_need hC p1
      have o3 := a9 h3 (Or.inr (Or.inr (Or.inr rfl)))
      have m1 : mh_ms (mh_need (mh_mi σ p)) := mh_pk_ms (mh_need_len (mh_x_ms hC p1))
      have m2 : mh_ms (mh_need (mh_mi σ q)) := mh_pk_ms (mh_need_len (mh_x_ms hC q1))
      obtain ⟨fk, ck, k1⟩ := a7.2 6 (by omega)
      obtain ⟨f', y1, y2⟩ := mh_fx1_copy k1 a4 k1.ne (hC.1.ne (by omega) (by omega) (by omega)) (hC.1.ne (by omega) (by omega) (by omega)) (hC.1.ne (by omega) (by omega) (by omega)) (hC.1.ne (by omega) (by omega) (by omega))
      obtain ⟨h4, hh4⟩ : ∃ h4, h4 = mh_up (mh_up h3 (ad 1031) (.inr (1, [.ref (ad 1032), .int (nI (mh_need (mh_mi σ p)).length)]))) (ad 1032) (.inl (0, 12, .inl f')) := ⟨_, rfl⟩
      rw [← hh4] at y1 y2
      obtain ⟨z1, z2⟩ := a7.same 6 (by omega) (h' := h4) (fun b hb => by rw [hh4, mh_up_ne (hb 1032 (by decide) (by decide)), mh_up_ne (hb 1031 (by decide) (by decide))]) ⟨_, _, y2⟩
      obtain ⟨h5, h6, h7, g, b1, b2, b3, b4, b5, b6, b7, b8, b9⟩ := mh_x_need z1 q1
      have kk : mh_Co h7 (ad 1031) (ad 1032) f' (mh_need (mh_mi σ p)) := by
        -- the needs' own work leaves what is kept
        obtain ⟨fo, fb, fk5, ck5, n1, n2, n3, n4⟩ := z1.2 5 (by omega)
        have ne : ∀ {x y : Nat}, x < 1290 → y < 1290 → x ≠ y → ad x ≠ ad y := fun h1 h2 h3 => hC.1.ne h1 h2 h3
        obtain ⟨f5, e1, _⟩ := mh_fx5_clear (mh_apt n1 n2 (fun q => by cases q)) n1 n2
        rw [b1] at e1
        cases e1
        obtain ⟨_, _, _, _, n1', n2', n3', n4'⟩ := b5.2 5 (by omega)
        obtain ⟨fq, hcq⟩ := mh_x_mint b5 q1
        have hf6 : ∀ k, k < 1290 → k ≠ 1027 → h6 (ad k) = (mh_up h4 (ad 1027) (.inl (2, 301, .inl f5))) (ad k) := fun k hk hn => by
          obtain ⟨hh, c1, c2, c3, c4⟩ := mh_x_clear z1
          rw [b1] at c1
          cases c1
          obtain ⟨fo2, fb2, fk2, ck2, w1, w2, w3, w4, w5⟩ := c2
          obtain ⟨f6, u1, u2⟩ := mh_fx5_offerAll w1 w2 w5 hcq (mh_x_ms b5 q1).1
          rw [b2] at u1
          cases u1
          exact mh_up_ne (ne hk (by omega) hn)
        have hf7 : ∀ k, k < 1290 → k ≠ 1028 → k ≠ 1029 → k ≠ 1030 → h7 (ad k) = h6 (ad k) := fun k hk e1 e2 e3 => by
          obtain ⟨hh, c1, c2, c3, c4⟩ := mh_x_clear z1
          rw [b1] at c1
          cases c1
          obtain ⟨hh2, c5, c6, c7, c8⟩ := mh_x_offerAll c3 c2 q1
          rw [b2] at c5
          cases c5
          obtain ⟨fo2, fb2, fk2, ck2, w1, w2, w3, w4, w5⟩ := c6
          obtain ⟨r, u1, u2, u3, u4⟩ := mh_fx5_pick w1 w2 w3 w4 (hC.1.ne (by omega) (by omega) (by omega)) w5
          rw [b3] at u1
          cases u1
          exact u4 _ (by simp [ne hk (show 1028 < 1290 by omega) e1, ne hk (show 1029 < 1290 by omega) e2, ne hk (show 1030 < 1290 by omega) e3])
        exact y2.keep ((hf7 _ (by omega) (by omega) (by omega) (by omega)).trans ((hf6 _ (by omega) (by omega)).trans (mh_up_ne (ne (by omega) (by omega) (by omega))))) ((hf7 _ (by omega) (by omega) (by omega) (by omega)).trans ((hf6 _ (by omega) (by omega)).trans (mh_up_ne (ne (by omega) (by omega) (by omega)))))
      have hal := mh_fx1_alike kk b4 (fun i => by have := m1.1.le i; omega) (fun i => by have := m2.1.le i; omega)
      have o4 := b9 h4 (Or.inl rfl)
      have o7 := b9 h7 (Or.inr (Or.inr (Or.inr rfl)))
      rw [mh_bx_r (mh_x_mintAt hC p1), mh_cal_eq hC.ob, mh_bx_r (mh_x_mintAt hC q1), mh_gR_eq (k := 5) hC.ob rfl, Option.bind_some, mh_cal_eq (a9 h (Or.inl rfl)), a1, Option.bind_some, mh_gR_eq (k := 5) a5.ob rfl, Option.bind_some, mh_cal_eq (a9 h1 (Or.inr (Or.inl rfl))), a2, Option.bind_some, mh_gR_eq (k := 5) a6.ob rfl, Option.bind_some, mh_cal_eq (a9 h2 (Or.inr (Or.inr (Or.inl rfl)))), mh_b2_eq a3, mh_gR_eq (k := 6) a7.ob rfl, Option.bind_some, mh_gR_eq (k := 5) a7.ob rfl, Option.bind_some, mh_cal_eq o3, mh_b2_eq (mh_fx5_picked o3), mh_cal_eq k1.1, y1, Option.bind_some, mh_gR_eq (k := 5) z1.ob rfl, Option.bind_some, mh_cal_eq o4, b1, Option.bind_some, mh_gR_eq (k := 5) b5.ob rfl, Option.bind_some, mh_cal_eq (b9 h5 (Or.inr (Or.inl rfl))), b2, Option.bind_some, mh_gR_eq (k := 5) b6.ob rfl, Option.bind_some, mh_cal_eq (b9 h6 (Or.inr (Or.inr (Or.inl rfl)))), mh_b2_eq b3, mh_gR_eq (k := 6) b7.ob rfl, Option.bind_some, mh_gR_eq (k := 5) b7.ob rfl, Option.bind_some, mh_cal_eq o7, mh_b2_eq (mh_fx5_picked o7), mh_cal_eq kk.1, mh_b2_eq hal]
      by_cases he : mh_need (mh_mi σ p) = mh_need (mh_mi σ q)
      · rw [if_pos he]
        exact ⟨.inr 1, h7, rfl, Or.inl ⟨p, q, p1, q1, rfl, rfl, Or.inl ⟨he, rfl⟩⟩, b7, a8.trans (z2.trans b8)⟩
      · rw [if_neg he]
        exact ⟨.inr 0, h7, rfl, Or.inl ⟨p, q, p1, q1, rfl, rfl, Or.inr ⟨he, rfl⟩⟩, b7, a8.trans (z2.trans b8)⟩
    · subst p2
      rw [mh_bx_r (mh_x_mintAt hC p1), mh_cal_eq hC.ob, mh_bx_l (mh_x_mintNo hy)]
      exact ⟨_, h, rfl, Or.inr ⟨fun a b _ hb q => hy b hb q.2, rfl⟩, hC, mh_frC.rfl⟩
  · rw [mh_bx_l (mh_x_mintNo hx)]
    exact ⟨_, h, rfl, Or.inr ⟨fun a b ha _ q => hx a ha q.1, rfl⟩, hC, mh_frC.rfl⟩
theorem mh_K_join (hC : mh_CI h ad σ) (x1 x2 x3 : Int32) : ∃ r h' σ', f_X11_join_e (ad 1289) x1 x2 x3 h = some (r, h') ∧ mh_Sjoin σ x1 x2 x3 r σ' ∧ mh_CI h' ad σ' ∧ mh_frC ad h h' := by
  unfold f_X11_join_e
  rw [mh_cal_eq hC.ob]
  rcases mh_place x1 with ⟨a, a1, a2⟩ | hx
  · rcases mh_place x2 with ⟨b, b1, b2⟩ | hy
    · rcases mh_place x3 with ⟨p, p1, p2⟩ | hz
      · subst a2 b2 p2
        obtain ⟨fo, fb, fk, ck, n1, _⟩ := hC.2 5 (by omega)
        obtain ⟨h1, c1, c2, c3, c4⟩ := mh_x_clear hC
        obtain ⟨h2, e1, e2, e3, e4⟩ := mh_x_offerAll c3 c2 a1
        obtain ⟨h3, g1, g2, g3, g4⟩ := mh_x_offerAll e3 e2 b1
        obtain ⟨r, h4, k1, k2, k3, k4, k5⟩ := mh_x_pick g3 g2
        have m1 : h1 (ad 1026) = some (mh_Ns (ad 1027) (ad 1028) (ad 1029)) := by obtain ⟨_, _, _, _, m, _⟩ := c2; exact m
        have m2 : h2 (ad 1026) = some (mh_Ns (ad 1027) (ad 1028) (ad 1029)) := by obtain ⟨_, _, _, _, m, _⟩ := e2; exact m
        have m3 : h3 (ad 1026) = some (mh_Ns (ad 1027) (ad 1028) (ad 1029)) := by obtain ⟨_, _, _, _, m, _⟩ := g2; exact m
        have ep : mh_pk (fun j => (False ∨ j ∈ σ.2.1.1 (σ.1.1 * 8 + a)) ∨ j ∈ σ.2.1.1 (σ.1.1 * 8 + b)) 300 = mh_pk (fun j => j ∈ mh_mi σ a ∨ j ∈ mh_mi σ b) 300 := mh_pk_congr 300 (fun x _ _ => ⟨fun q => q.imp (fun q => q.elim False.elim id) id, fun q => q.imp Or.inr id⟩)
        rw [ep] at k2
        rw [mh_bx_r (mh_x_mintAt hC a1), mh_cal_eq hC.ob, mh_bx_r (mh_x_mintAt hC b1), mh_cal_eq hC.ob, mh_bx_r (mh_x_mintAt hC p1), mh_gR_eq (k := 5) hC.ob rfl, Option.bind_some, mh_cal_eq n1, c1, Option.bind_some, mh_gR_eq (k := 5) c3.ob rfl, Option.bind_some, mh_cal_eq m1, e1, Option.bind_some, mh_gR_eq (k := 5) e3.ob rfl, Option.bind_some, mh_cal_eq m2, g1, Option.bind_some, mh_gR_eq (k := 5) g3.ob rfl, Option.bind_some, mh_cal_eq m3, mh_b2_eq k1]
        rcases k2 with ⟨d1, d2, f, d3⟩ | ⟨d1, d2⟩
        · obtain ⟨h5, y1, y2, y3⟩ := mh_x_become k3 p1 d3 (mh_pk_ms d2) k5
          rw [d1, if_neg (by decide), mh_cal_eq k3.ob, mh_b2_eq y1]
          exact ⟨_, h5, _, rfl, Or.inl ⟨a, b, p, a1, b1, p1, rfl, rfl, rfl, Or.inl ⟨d2, rfl, rfl⟩⟩, y2, c4.trans (e4.trans (g4.trans (k4.trans y3)))⟩
        · rw [d1, if_pos rfl]
          exact ⟨_, h4, σ, rfl, Or.inl ⟨a, b, p, a1, b1, p1, rfl, rfl, rfl, Or.inr ⟨by omega, rfl, rfl⟩⟩, k3, c4.trans (e4.trans (g4.trans k4))⟩
      · subst a2 b2
        rw [mh_bx_r (mh_x_mintAt hC a1), mh_cal_eq hC.ob, mh_bx_r (mh_x_mintAt hC b1), mh_cal_eq hC.ob, mh_bx_l (mh_x_mintNo hz)]
        exact ⟨_, h, σ, rfl, Or.inr ⟨fun _ _ p _ _ hp q => hz p hp q.2.2, rfl, rfl⟩, hC, mh_frC.rfl⟩
    · subst a2
      rw [mh_bx_r (mh_x_mintAt hC a1), mh_cal_eq hC.ob, mh_bx_l (mh_x_mintNo hy)]
      exact ⟨_, h, σ, rfl, Or.inr ⟨fun _ b _ _ hb _ q => hy b hb q.2.1, rfl, rfl⟩, hC, mh_frC.rfl⟩
  · rw [mh_bx_l (mh_x_mintNo hx)]
    exact ⟨_, h, σ, rfl, Or.inr ⟨fun a _ _ ha _ _ q => hx a ha q.1, rfl, rfl⟩, hC, mh_frC.rfl⟩
end MhNeedB
