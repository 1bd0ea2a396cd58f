def mh_noch (c1 n1 c2 n2 : List Nat) (s : Nat) : Prop := ∀ ks ms, mh_vp c1 n1 (s + mh_dot c2 ms) ks → ¬ mh_vp c2 n2 (mh_dot c2 ms) ms
def mh_Bchg (σ : mh_Sg) (x1 x2 x3 : Int32) (Y : Nat → Nat → Nat → List Nat → List Nat → Prop) (no : Prop) (bad : Nat → Prop) : Prop := (∃ p q, p < 8 ∧ q < 8 ∧ x1 = nI p ∧ x2 = nI q ∧ ((∃ s, s < 2 ^ 31 ∧ x3 = nI s ∧ p ≠ q ∧ ((∃ ks ms, mh_cg (mh_pc σ p) (mh_pn σ p) (mh_pc σ q) (mh_pn σ q) s ks ms ∧ Y p q s ks ms) ∨ (mh_noch (mh_pc σ p) (mh_pn σ p) (mh_pc σ q) (mh_pn σ q) s ∧ no))) ∨ ((p = q ∨ ∀ s, s < 2 ^ 31 → x3 ≠ nI s) ∧ bad 2))) ∨ ((∀ p q, p < 8 → q < 8 → ¬ (x1 = nI p ∧ x2 = nI q)) ∧ bad 1)
def mh_Pch (h : mh_H) (ad : Nat → Nat) (σ : mh_Sg) (p q s : Nat) (ks ms : List Nat) : Prop := mh_PT h (ad 1265) (ad 1266) (ad 1267) (ad 1268) (ad 1269) (ad 1270) (mh_pc σ p) (mh_pn σ p) ∧ mh_PT h (ad 1271) (ad 1272) (ad 1273) (ad 1274) (ad 1275) (ad 1276) (mh_pc σ q) (mh_pn σ q) ∧ mh_bv (mh_pc σ p) (mh_pn σ p) (s + mh_dot (mh_pc σ q) ms) ks ∧ mh_bv (mh_pc σ q) (mh_pn σ q) (mh_dot (mh_pc σ q) ms) ms ∧ s + mh_dot (mh_pc σ q) ms ≤ 20000
section MhChange
variable {h : mh_H} {ad : Nat → Nat} {σ : mh_Sg}
theorem mh_x_changeBack (hC : mh_CI h ad σ) (x1 x2 x3 : Int32) : ∃ r h', f_X11_changeBack_e (ad 1289) x1 x2 x3 h = some (r, h') ∧ mh_Bchg σ x1 x2 x3 (fun p q s ks ms => r = .inr (nI (mh_dot (mh_pc σ q) ms)) ∧ mh_Pch h' ad σ p q s ks ms) (r = .inr (-1)) (fun e => r = .inl e) ∧ mh_CI h' ad σ ∧ mh_frC ad h h' := by
  unfold f_X11_changeBack_e
  rw [mh_cal_eq hC.ob]
  rcases mh_place x1 with ⟨p, p1, p2⟩ | hx
  · rcases mh_place x2 with ⟨q, q1, q2⟩ | hy
    · subst p2 q2
      rw [mh_bx_r (mh_x_purseAt hC p1), mh_cal_eq hC.ob, mh_bx_r (mh_x_purseAt hC q1)]
      rcases mh_sgn x3 with ⟨n1, n2⟩ | ⟨n1, s, n2, n3⟩
      · rw [if_pos n1]
        exact ⟨_, h, rfl, Or.inl ⟨p, q, p1, q1, rfl, rfl, Or.inr ⟨Or.inr n2, rfl⟩⟩, hC, mh_frC.rfl⟩
      · rw [if_neg n1]
        by_cases epq : p = q
        · rw [if_pos (by rw [epq])]
          exact ⟨_, h, rfl, Or.inl ⟨p, q, p1, q1, rfl, rfl, Or.inr ⟨Or.inl epq, rfl⟩⟩, hC, mh_frC.rfl⟩
        · subst n3
          rw [if_neg (fun c => epq ((nI_eq (by omega) (by omega)).mp c))]
          obtain ⟨c, n, hP⟩ := hC.pt mh_pt10
          obtain ⟨h1, e1, e2, e3, e4, e5⟩ := mh_x_pt hC mh_pt10 p1
          obtain ⟨c', n', hP'⟩ := e3.pt mh_pt11
          obtain ⟨h2, g1, g2, g3, g4, g5⟩ := mh_x_pt e3 mh_pt11 q1
          have at2 : ∀ k, 1265 ≤ k → k < 1271 → h2 (ad k) = h1 (ad k) := fun k k1 k2 => g5.at hC.1 (by omega) (by omega) (by omega)
          have e2' := e2.keep (at2 _ (by omega) (by omega)) (at2 _ (by omega) (by omega)) (at2 _ (by omega) (by omega)) (at2 _ (by omega) (by omega)) (at2 _ (by omega) (by omega)) (at2 _ (by omega) (by omega))
          obtain ⟨x, y1, y2⟩ := mh_fx8_backFrom e2' g2 n2
          rw [mh_gR_eq (k := 10) hC.ob rfl, Option.bind_some, mh_cal_eq hP.o, e1, Option.bind_some, mh_gR_eq (k := 11) e3.ob rfl, Option.bind_some, mh_cal_eq hP'.o, g1, Option.bind_some, mh_gR_eq (k := 10) g3.ob rfl, Option.bind_some, mh_gR_eq (k := 11) g3.ob rfl, Option.bind_some, mh_cal_eq e2'.o, mh_b2_eq y1]
          rcases y2 with ⟨y3, y4⟩ | ⟨ks, ms, y3, y4, y5, y6, y7⟩
          · exact ⟨_, h2, rfl, Or.inl ⟨p, q, p1, q1, rfl, rfl, Or.inl ⟨s, n2, rfl, epq, Or.inr ⟨y4, by rw [y3]⟩⟩⟩, g3, e4.trans g4⟩
          · exact ⟨_, h2, rfl, Or.inl ⟨p, q, p1, q1, rfl, rfl, Or.inl ⟨s, n2, rfl, epq, Or.inl ⟨ks, ms, y3, by rw [y6], e2', g2, y4, y5, y7⟩⟩⟩, g3, e4.trans g4⟩
    · subst p2
      rw [mh_bx_r (mh_x_purseAt hC p1), mh_cal_eq hC.ob, mh_bx_l (mh_x_purseNo hy)]
      exact ⟨_, h, rfl, Or.inr ⟨fun _ b _ hb q => hy b hb q.2, rfl⟩, hC, mh_frC.rfl⟩
  · rw [mh_bx_l (mh_x_purseNo hx)]
    exact ⟨_, h, rfl, Or.inr ⟨fun a _ ha _ q => hx a ha q.1, rfl⟩, hC, mh_frC.rfl⟩
theorem mh_x_moved (hC : mh_CI h ad σ) {c1 n1 c2 n2 ks ms : List Nat} {s b : Nat} (hP : mh_PT h (ad 1265) (ad 1266) (ad 1267) (ad 1268) (ad 1269) (ad 1270) c1 n1) (hT : mh_PT h (ad 1271) (ad 1272) (ad 1273) (ad 1274) (ad 1275) (ad 1276) c2 n2) (h1 : mh_bv c1 n1 (s + b) ks) (h2 : mh_bv c2 n2 b ms) (hs : s + b ≤ 20000) : f_X11_moved_e (ad 1289) (nI s) (nI b) h = some (nI (ks.sum + ms.sum), h) := by
  have u : ∀ {c n : List Nat} {s : Nat} {ks ks' : List Nat}, mh_bv c n s ks → mh_bv c n s ks' → ks.sum = ks'.sum := fun a b => by
    have x := a.2 _ b.1
    have y := b.2 _ a.1
    omega
  unfold f_X11_moved_e
  obtain ⟨x, y1, y2⟩ := mh_fx8_size hP (s := s + b) (by omega)
  obtain ⟨x', z1, z2⟩ := mh_fx8_size hT (s := b) (by omega)
  rw [mh_gR_eq (k := 10) hC.ob rfl, Option.bind_some, nI_add, mh_cal_eq hP.o, mh_b2_eq y1, mh_gR_eq (k := 11) hC.ob rfl, Option.bind_some, mh_cal_eq hT.o, mh_b2_eq z1]
  rcases y2 with ⟨y3, _⟩ | ⟨ks', y3, y4⟩
  · exact absurd h1.1 (y3 ks)
  · rcases z2 with ⟨z3, _⟩ | ⟨ms', z3, z4⟩
    · exact absurd h2.1 (z3 ms)
    · rw [y4, z4, nI_add, u h1 y3, u h2 z3]
theorem mh_K_change (hC : mh_CI h ad σ) (x1 x2 x3 : Int32) : ∃ r h', f_X11_change_e (ad 1289) x1 x2 x3 h = some (r, h') ∧ mh_Bchg σ x1 x2 x3 (fun _ _ _ ks ms => r = .inr (nI (ks.sum + ms.sum))) (r = .inr (-1)) (fun e => r = .inl e) ∧ mh_CI h' ad σ ∧ mh_frC ad h h' := by
  unfold f_X11_change_e
  obtain ⟨r, h1, e1, e2, e3, e4⟩ := mh_x_changeBack hC x1 x2 x3
  rw [mh_cal_eq hC.ob]
  rcases e2 with ⟨p, q, p1, q1, p2, q2, e2⟩ | ⟨e2, e5⟩
  · rcases e2 with ⟨s, s1, s2, s3, e2⟩ | ⟨e2, e5⟩
    · rcases e2 with ⟨ks, ms, k1, k2, k3, k4, k5, k6, k7⟩ | ⟨k1, k2⟩
      · rw [k2] at e1
        have nb : ¬ nI (mh_dot (mh_pc σ q) ms) = (-1 : Int32) := fun c => by
          have := nI_pos (n := mh_dot (mh_pc σ q) ms) (by omega)
          rw [c] at this
          exact this (by decide)
        rw [mh_bx_r e1, if_neg nb, mh_cal_eq e3.ob, s2, mh_b2_eq (mh_x_moved e3 k3 k4 k5 k6 k7)]
        exact ⟨_, h1, rfl, Or.inl ⟨p, q, p1, q1, p2, q2, Or.inl ⟨s, s1, rfl, s3, Or.inl ⟨ks, ms, k1, rfl⟩⟩⟩, e3, e4⟩
      · rw [k2] at e1
        rw [mh_bx_r e1, if_pos rfl]
        exact ⟨_, h1, rfl, Or.inl ⟨p, q, p1, q1, p2, q2, Or.inl ⟨s, s1, s2, s3, Or.inr ⟨k1, rfl⟩⟩⟩, e3, e4⟩
    · rw [e5] at e1
      rw [mh_bx_l e1]
      exact ⟨_, h1, rfl, Or.inl ⟨p, q, p1, q1, p2, q2, Or.inr ⟨e2, rfl⟩⟩, e3, e4⟩
  · rw [e5] at e1
    rw [mh_bx_l e1]
    exact ⟨_, h1, rfl, Or.inr ⟨e2, rfl⟩, e3, e4⟩
end MhChange
