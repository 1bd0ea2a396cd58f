/-! the 168 places of mints and purses: ad numbers the cells of the object, no two alike -/
def mh_Inj (ad : Nat → Nat) (M : Nat) : Prop := ∀ i j, i < M → j < M → ad i = ad j → i = j
theorem mh_Inj.ne {ad : Nat → Nat} {M i j : Nat} (h : mh_Inj ad M) (hi : i < M) (hj : j < M) (hn : i ≠ j) : ad i ≠ ad j := fun q => hn (h i j hi hj q)
def mh_Sl (h : mh_H) (ad : Nat → Nat) (j : Nat) (m c n : List Nat) : Prop := (∃ f, mh_Co h (ad (6 * j)) (ad (6 * j + 1)) f m) ∧ ∃ f g, mh_Pu h (ad (6 * j + 2)) (ad (6 * j + 3)) (ad (6 * j + 4)) (ad (6 * j + 5)) f g c n
theorem mh_Sl.keep {h h' : mh_H} {ad : Nat → Nat} {j : Nat} {m c n : List Nat} (hs : mh_Sl h ad j m c n) (e : ∀ k, k < 6 → h' (ad (6 * j + k)) = h (ad (6 * j + k))) : mh_Sl h' ad j m c n := by
  obtain ⟨⟨f, h1⟩, f2, g2, h2⟩ := hs
  exact ⟨⟨f, h1.keep (e 0 (by omega)) (e 1 (by omega))⟩, f2, g2, h2.keep (e 2 (by omega)) (e 3 (by omega)) (e 4 (by omega)) (e 5 (by omega))⟩
theorem mh_slcopy {h : mh_H} {ad : Nat → Nat} {j k : Nat} {m c n m0 c0 n0 : List Nat} (hi : mh_Inj ad 1008) (hj : j < 168) (hk : k < 168) (hjk : j ≠ k) (hs : mh_Sl h ad k m c n) (hd : mh_Sl h ad j m0 c0 n0) :
    ∃ h1 h2, f_X1_copy_e (ad (6 * j)) (ad (6 * k)) h = some h1 ∧ f_X7_copy_e (ad (6 * j + 2)) (ad (6 * k + 2)) h1 = some h2 ∧ mh_Sl h2 ad j m c n ∧ (∀ b, (∀ q, q < 6 → b ≠ ad (6 * j + q)) → h1 b = h b) ∧ ∀ b, (∀ q, q < 6 → b ≠ ad (6 * j + q)) → h2 b = h b := by
  obtain ⟨⟨f, s1⟩, f2, g2, s2⟩ := hs
  obtain ⟨⟨f0, d1⟩, f3, g3, d2⟩ := hd
  have ne : ∀ {x y : Nat}, x < 1008 → y < 1008 → x ≠ y → ad x ≠ ad y := fun h1 h2 h3 => hi.ne h1 h2 h3
  obtain ⟨f', e1, e2⟩ := mh_fx1_copy d1 s1 (ne (by omega) (by omega) (by omega)) (ne (by omega) (by omega) (by omega)) (ne (by omega) (by omega) (by omega)) (ne (by omega) (by omega) (by omega)) (ne (by omega) (by omega) (by omega))
  have kp : ∀ b, b ≠ ad (6 * j) → b ≠ ad (6 * j + 1) → (mh_up (mh_up h (ad (6 * j)) (.inr (1, [.ref (ad (6 * j + 1)), .int (nI m.length)]))) (ad (6 * j + 1)) (.inl (0, 12, .inl f'))) b = h b := fun b h1 h2 => by rw [mh_up_ne h2, mh_up_ne h1]
  have s2' := s2.keep (kp _ (ne (by omega) (by omega) (by omega)) (ne (by omega) (by omega) (by omega))) (kp _ (ne (by omega) (by omega) (by omega)) (ne (by omega) (by omega) (by omega))) (kp _ (ne (by omega) (by omega) (by omega)) (ne (by omega) (by omega) (by omega))) (kp _ (ne (by omega) (by omega) (by omega)) (ne (by omega) (by omega) (by omega)))
  have d2' := d2.keep (kp _ (ne (by omega) (by omega) (by omega)) (ne (by omega) (by omega) (by omega))) (kp _ (ne (by omega) (by omega) (by omega)) (ne (by omega) (by omega) (by omega))) (kp _ (ne (by omega) (by omega) (by omega)) (ne (by omega) (by omega) (by omega))) (kp _ (ne (by omega) (by omega) (by omega)) (ne (by omega) (by omega) (by omega)))
  obtain ⟨h2, f4, g4, e3, e4, e5⟩ := mh_fx7_copy d2' s2' (ne (by omega) (by omega) (by omega)) (ne (by omega) (by omega) (by omega)) (ne (by omega) (by omega) (by omega)) (ne (by omega) (by omega) (by omega)) (ne (by omega) (by omega) (by omega)) (ne (by omega) (by omega) (by omega)) (ne (by omega) (by omega) (by omega)) (ne (by omega) (by omega) (by omega)) (ne (by omega) (by omega) (by omega)) (ne (by omega) (by omega) (by omega)) (ne (by omega) (by omega) (by omega)) (ne (by omega) (by omega) (by omega)) (ne (by omega) (by omega) (by omega)) (ne (by omega) (by omega) (by omega)) (ne (by omega) (by omega) (by omega)) (ne (by omega) (by omega) (by omega)) (ne (by omega) (by omega) (by omega)) (ne (by omega) (by omega) (by omega))
  refine ⟨_, h2, e1, e3, ⟨⟨f', e2.keep (e5 _ (ne (by omega) (by omega) (by omega)) (ne (by omega) (by omega) (by omega)) (ne (by omega) (by omega) (by omega))) (e5 _ (ne (by omega) (by omega) (by omega)) (ne (by omega) (by omega) (by omega)) (ne (by omega) (by omega) (by omega)))⟩, f4, g4, e4⟩, fun b hb => kp b (hb 0 (by omega)) (hb 1 (by omega)), fun b hb => ?_⟩
  rw [e5 b (hb 3 (by omega)) (hb 4 (by omega)) (hb 5 (by omega))]
  exact kp b (hb 0 (by omega)) (hb 1 (by omega))
