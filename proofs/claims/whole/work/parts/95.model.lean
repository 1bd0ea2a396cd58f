/-! the reference as an object: its cells are bd 0 .. bd 98 -/
def mh_rf (bd : Nat → Nat) (F : Nat → Int32) : List Value := [.int (F 0), .ref (bd 1), .ref (bd 2), .int (F 3), .int (F 4), .int (F 5), .ref (bd 24), .int (F 7), .ref (bd 25), .ref (bd 39), .ref (bd 40), .ref (bd 41), .ref (bd 42), .ref (bd 56), .int (F 14), .int (F 15), .int (F 16), .ref (bd 57), .ref (bd 58), .ref (bd 59), .ref (bd 60), .ref (bd 61), .int (F 22), .int (F 23), .ref (bd 62), .ref (bd 63), .int (F 26), .int (F 27), .int (F 28), .ref (bd 64), .ref (bd 65), .ref (bd 79), .ref (bd 93), .ref (bd 94), .ref (bd 95), .ref (bd 96), .ref (bd 97), .ref (bd 98)]
/-- a row of 304 numbers says what eight mints and eight purses have -/
def mh_Rw (g : Nat → Int32) (m c n : Nat → List Nat) : Prop := ∀ p, p < 8 → mh_ms (m p) ∧ mh_pz (c p) (n p) ∧ g (13 * p) = nI (m p).length ∧ (∀ i, i < (m p).length → g (13 * p + 1 + i) = nI ((m p).getD i 0)) ∧ g (104 + 25 * p) = nI (c p).length ∧ ∀ i, i < (c p).length → g (104 + 25 * p + 1 + i) = nI ((c p).getD i 0) ∧ g (104 + 25 * p + 13 + i) = nI ((n p).getD i 0)
def mh_rI (F : Nat → Int32) (σ : mh_Sg) : Prop := (F 3 = nI σ.1.1 ∧ σ.1.1 < 21) ∧ (F 4 = nI σ.1.2.1 ∧ σ.1.2.1 ≤ 20) ∧ (F 5 = nI σ.1.2.2 ∧ σ.1.2.2 ≤ 20) ∧ (F 23 = nI σ.2.2.1 ∧ σ.2.2.1 ≤ 2000) ∧ F 15 = mh_bz σ.2.2.2.isSome
/-- what is kept of fewest payings -/
def mh_kpt (x : Int32) (fb : Nat → Int32) (G : Nat → Nat → Int32) : Prop := x = -1 ∨ ∃ cs, mh_ms cs ∧ x = nI cs.length ∧ (∀ i, i < cs.length → fb i = nI (cs.getD i 0)) ∧ ∀ j, j ≤ cs.length → ∀ s, s ≤ 100300 → G j s = nI (mh_nv (mh_mn (cs.take j) s))
def mh_hr (x : Int32) (hd : Option (List Nat × List Nat)) (f1 f2 : Nat → Int32) : Prop := match hd with
  | none => True
  | some (c, n) => x = nI c.length ∧ mh_ms c ∧ n.length = c.length ∧ (∀ i, n.getD i 0 ≤ 3000) ∧ ∀ i, i < c.length → f1 i = nI (c.getD i 0) ∧ f2 i = nI (n.getD i 0)
def mh_rc (bd : Nat → Nat) (σ : mh_Sg) (F : Nat → Int32) (i : Nat) (h : mh_H) : Prop := match i with
  | 0 => h (bd 0) = some (.inr (12, mh_rf bd F)) ∧ mh_rI F σ
  | 1 => ∃ g, h (bd 1) = some (.inl (0, 304, .inl g)) ∧ mh_Rw g (mh_mi σ) (mh_pc σ) (mh_pn σ)
  | 2 => ∃ G, mh_Oi h (bd 2) (fun j => bd (3 + j)) 21 ∧ mh_Ri h (fun j => bd (3 + j)) 21 304 G ∧ ∀ j, j < 21 → mh_Rw (G j) (fun p => σ.2.1.1 (j * 8 + p)) (fun p => σ.2.1.2.1 (j * 8 + p)) (fun p => σ.2.1.2.2 (j * 8 + p))
  | 3 => ∃ fb G, h (bd 24) = some (.inl (0, 12, .inl fb)) ∧ mh_Oi h (bd 25) (fun j => bd (26 + j)) 13 ∧ mh_Ri h (fun j => bd (26 + j)) 13 100301 G ∧ mh_kpt (F 7) fb G
  | 4 => ∃ f1 f2 f3, h (bd 39) = some (.inl (2, 200001, .inl f1)) ∧ h (bd 40) = some (.inl (2, 200001, .inl f2)) ∧ h (bd 41) = some (.inl (2, 200001, .inl f3))
  | 5 => ∃ G, mh_Oy h (bd 42) (fun j => bd (43 + j)) ∧ mh_Ry h (fun j => bd (43 + j)) G
  | 6 => ∃ f, h (bd 56) = some (.inl (0, 24, .inl f))
  | 7 => ∃ f1 f2, h (bd 57) = some (.inl (0, 12, .inl f1)) ∧ h (bd 58) = some (.inl (0, 12, .inl f2)) ∧ mh_hr (F 16) σ.2.2.2 f1 f2
  | 8 => ∃ f1 f2 f3 f4 f5 f6, h (bd 59) = some (.inl (0, 2400, .inl f1)) ∧ h (bd 60) = some (.inl (0, 12, .inl f2)) ∧ h (bd 61) = some (.inl (0, 200, .inl f3)) ∧ h (bd 62) = some (.inl (0, 6, .inl f4)) ∧ h (bd 63) = some (.inl (0, 6, .inl f5)) ∧ h (bd 64) = some (.inl (0, 3902, .inl f6))
  | 9 => ∃ G1 G2, mh_Oi h (bd 65) (fun j => bd (66 + j)) 13 ∧ mh_Ri h (fun j => bd (66 + j)) 13 20001 G1 ∧ mh_Oi h (bd 79) (fun j => bd (80 + j)) 13 ∧ mh_Ri h (fun j => bd (80 + j)) 13 20001 G2
  | 10 => ∃ f1 f2 f3 f4 f5 f6, h (bd 93) = some (.inl (0, 100301, .inl f1)) ∧ f1 0 = 0 ∧ h (bd 94) = some (.inl (2, 301, .inl f2)) ∧ h (bd 95) = some (.inl (0, 12, .inl f3)) ∧ h (bd 96) = some (.inl (0, 12, .inl f4)) ∧ h (bd 97) = some (.inl (0, 12, .inl f5)) ∧ h (bd 98) = some (.inl (0, 50, .inl f6))
  | _ => True
def mh_rr (i : Nat) : Nat := match i with
  | 0 => 0
  | 1 => 1
  | 2 => 2
  | 3 => 24
  | 4 => 39
  | 5 => 42
  | 6 => 56
  | 7 => 57
  | 8 => 59
  | 9 => 65
  | 10 => 93
  | _ => 99
theorem mh_rc_keep {h h' : mh_H} {bd : Nat → Nat} {σ : mh_Sg} {F : Nat → Int32} {i : Nat} (hi : i < 11) (hk : ∀ k, mh_rr i ≤ k → k < mh_rr (i + 1) → h' (bd k) = h (bd k)) (hc : mh_rc bd σ F i h) : mh_rc bd σ F i h' := by
  obtain rfl | rfl | rfl | rfl | rfl | rfl | rfl | rfl | rfl | rfl | rfl : i = 0 ∨ i = 1 ∨ i = 2 ∨ i = 3 ∨ i = 4 ∨ i = 5 ∨ i = 6 ∨ i = 7 ∨ i = 8 ∨ i = 9 ∨ i = 10 := by omega
  · have hk : ∀ k, 0 ≤ k → k < 1 → h' (bd k) = h (bd k) := hk
    exact ⟨(hk 0 (by omega) (by omega)).trans hc.1, hc.2⟩
  · have hk : ∀ k, 1 ≤ k → k < 2 → h' (bd k) = h (bd k) := hk
    obtain ⟨g, h1, h2⟩ := hc
    exact ⟨g, (hk 1 (by omega) (by omega)).trans h1, h2⟩
  · have hk : ∀ k, 2 ≤ k → k < 24 → h' (bd k) = h (bd k) := hk
    obtain ⟨G, h1, h2, h3⟩ := hc
    exact ⟨G, (hk 2 (by omega) (by omega)).trans h1, fun j hj => (hk _ (by omega) (by omega)).trans (h2 j hj), h3⟩
  · have hk : ∀ k, 24 ≤ k → k < 39 → h' (bd k) = h (bd k) := hk
    obtain ⟨fb, G, h1, h2, h3, h4⟩ := hc
    exact ⟨fb, G, (hk _ (by omega) (by omega)).trans h1, (hk _ (by omega) (by omega)).trans h2, fun j hj => (hk _ (by omega) (by omega)).trans (h3 j hj), h4⟩
  · have hk : ∀ k, 39 ≤ k → k < 42 → h' (bd k) = h (bd k) := hk
    obtain ⟨f1, f2, f3, h1, h2, h3⟩ := hc
    exact ⟨f1, f2, f3, (hk _ (by omega) (by omega)).trans h1, (hk _ (by omega) (by omega)).trans h2, (hk _ (by omega) (by omega)).trans h3⟩
  · have hk : ∀ k, 42 ≤ k → k < 56 → h' (bd k) = h (bd k) := hk
    obtain ⟨G, h1, h2⟩ := hc
    exact ⟨G, (hk _ (by omega) (by omega)).trans h1, fun j hj => (hk _ (by omega) (by omega)).trans (h2 j hj)⟩
  · have hk : ∀ k, 56 ≤ k → k < 57 → h' (bd k) = h (bd k) := hk
    obtain ⟨f, h1⟩ := hc
    exact ⟨f, (hk _ (by omega) (by omega)).trans h1⟩
  · have hk : ∀ k, 57 ≤ k → k < 59 → h' (bd k) = h (bd k) := hk
    obtain ⟨f1, f2, h1, h2, h3⟩ := hc
    exact ⟨f1, f2, (hk _ (by omega) (by omega)).trans h1, (hk _ (by omega) (by omega)).trans h2, h3⟩
  · have hk : ∀ k, 59 ≤ k → k < 65 → h' (bd k) = h (bd k) := hk
    obtain ⟨f1, f2, f3, f4, f5, f6, h1, h2, h3, h4, h5, h6⟩ := hc
    exact ⟨f1, f2, f3, f4, f5, f6, (hk _ (by omega) (by omega)).trans h1, (hk _ (by omega) (by omega)).trans h2, (hk _ (by omega) (by omega)).trans h3, (hk _ (by omega) (by omega)).trans h4, (hk _ (by omega) (by omega)).trans h5, (hk _ (by omega) (by omega)).trans h6⟩
  · have hk : ∀ k, 65 ≤ k → k < 93 → h' (bd k) = h (bd k) := hk
    obtain ⟨G1, G2, h1, h2, h3, h4⟩ := hc
    exact ⟨G1, G2, (hk _ (by omega) (by omega)).trans h1, fun j hj => (hk _ (by omega) (by omega)).trans (h2 j hj), (hk _ (by omega) (by omega)).trans h3, fun j hj => (hk _ (by omega) (by omega)).trans (h4 j hj)⟩
  · have hk : ∀ k, 93 ≤ k → k < 99 → h' (bd k) = h (bd k) := hk
    obtain ⟨f1, f2, f3, f4, f5, f6, h1, h0, h2, h3, h4, h5, h6⟩ := hc
    exact ⟨f1, f2, f3, f4, f5, f6, (hk _ (by omega) (by omega)).trans h1, h0, (hk _ (by omega) (by omega)).trans h2, (hk _ (by omega) (by omega)).trans h3, (hk _ (by omega) (by omega)).trans h4, (hk _ (by omega) (by omega)).trans h5, (hk _ (by omega) (by omega)).trans h6⟩
def mh_RI (h : mh_H) (bd : Nat → Nat) (σ : mh_Sg) (F : Nat → Int32) : Prop := mh_Inj bd 99 ∧ ∀ i, i < 11 → mh_rc bd σ F i h
def mh_frR (bd : Nat → Nat) (h h' : mh_H) : Prop := ∀ b, (∀ k, k < 99 → b ≠ bd k) → h' b = h b
theorem mh_frR.rfl {bd : Nat → Nat} {h : mh_H} : mh_frR bd h h := fun _ _ => Eq.refl _
theorem mh_frR.trans {bd : Nat → Nat} {h h' h'' : mh_H} (a : mh_frR bd h h') (b : mh_frR bd h' h'') : mh_frR bd h h'' := fun x hx => (b x hx).trans (a x hx)
theorem mh_frR.up {bd : Nat → Nat} {h : mh_H} {k : Nat} (hk : k < 99) {e : mh_E} : mh_frR bd h (mh_up h (bd k) e) := fun b hb => mh_up_ne (hb k hk)
theorem mh_rr_le {i : Nat} (hi : i < 11) : mh_rr i < mh_rr (i + 1) ∧ mh_rr (i + 1) ≤ 99 := by
  obtain rfl | rfl | rfl | rfl | rfl | rfl | rfl | rfl | rfl | rfl | rfl : i = 0 ∨ i = 1 ∨ i = 2 ∨ i = 3 ∨ i = 4 ∨ i = 5 ∨ i = 6 ∨ i = 7 ∨ i = 8 ∨ i = 9 ∨ i = 10 := by omega
  all_goals exact ⟨by decide, by decide⟩
theorem mh_rr_mono : ∀ (d i : Nat), i + d ≤ 11 → mh_rr i ≤ mh_rr (i + d) := by
  intro d
  induction d with
  | zero => intro i _; exact Nat.le_refl _
  | succ d ih =>
    intro i h
    have := ih i (by omega)
    have := (mh_rr_le (show i + d < 11 by omega)).1
    rw [← Nat.add_assoc]
    omega
theorem mh_rr_sep {i j k m : Nat} (hi : i < 11) (hj : j < 11) (e : j ≠ i) (k1 : mh_rr j ≤ k) (k2 : k < mh_rr (j + 1)) (m1 : mh_rr i ≤ m) (m2 : m < mh_rr (i + 1)) : k ≠ m := by
  intro q
  subst q
  rcases Nat.lt_or_gt_of_ne e with q | q
  · have := mh_rr_mono (i - (j + 1)) (j + 1) (by omega)
    rw [show j + 1 + (i - (j + 1)) = i by omega] at this
    omega
  · have := mh_rr_mono (j - (i + 1)) (i + 1) (by omega)
    rw [show i + 1 + (j - (i + 1)) = j by omega] at this
    omega
section MhModel
variable {h : mh_H} {bd : Nat → Nat} {σ : mh_Sg} {F : Nat → Int32}
theorem mh_RI.mul (hR : mh_RI h bd σ F) {h' : mh_H} {σ' : mh_Sg} {F' : Nat → Int32} (S : List Nat) (h16 : ∀ i, i ∈ S → i < 11) (hf : ∀ b, (∀ i, i ∈ S → ∀ k, mh_rr i ≤ k → k < mh_rr (i + 1) → b ≠ bd k) → h' b = h b) (hn : ∀ i, i ∈ S → mh_rc bd σ' F' i h') (hs : ∀ j, j < 11 → j ∉ S → mh_rc bd σ F j h → mh_rc bd σ' F' j h) : mh_RI h' bd σ' F' ∧ mh_frR bd h h' := by
  refine ⟨⟨hR.1, fun j hj => ?_⟩, fun b hb => hf b (fun i hi k _ k2 => hb k (by have := (mh_rr_le (h16 i hi)).2; omega))⟩
  by_cases e : j ∈ S
  · exact hn j e
  · refine mh_rc_keep hj (fun k k1 k2 => hf _ (fun i hi m m1 m2 => hR.1.ne ?_ ?_ ?_)) (hs j hj e (hR.2 j hj))
    · have := (mh_rr_le hj).2; omega
    · have := (mh_rr_le (h16 i hi)).2; omega
    · exact mh_rr_sep (h16 i hi) hj (fun q => e (q ▸ hi)) k1 k2 m1 m2
theorem mh_RI.ob (hR : mh_RI h bd σ F) : h (bd 0) = some (.inr (12, mh_rf bd F)) := (hR.2 0 (by omega)).1
theorem mh_RI.ii (hR : mh_RI h bd σ F) : mh_rI F σ := (hR.2 0 (by omega)).2
/-- an answer: a value with code 0, or a code -/
def mh_an {α : Type} (r : Nat ⊕ α) (v : α) (F : Nat → Int32) : Prop := (r = .inr v ∧ F 0 = 0) ∨ ∃ e, r = .inl e ∧ F 0 = nI e
/-- a field that only says what was answered -/
theorem mh_RI.fld (hR : mh_RI h bd σ F) {k : Nat} (v : Int32) (hk : k = 0 ∨ k = 14 ∨ k = 22 ∨ k = 26 ∨ k = 27 ∨ k = 28) : mh_pI h (bd 0) 12 k v = some (mh_up h (bd 0) (.inr (12, mh_rf bd (upd F k v)))) ∧ mh_RI (mh_up h (bd 0) (.inr (12, mh_rf bd (upd F k v)))) bd σ (upd F k v) ∧ mh_frR bd h (mh_up h (bd 0) (.inr (12, mh_rf bd (upd F k v)))) := by
  have e1 : mh_pI h (bd 0) 12 k v = some (mh_up h (bd 0) (.inr (12, mh_rf bd (upd F k v)))) := mh_pI_s _ hR.ob (by
    rcases hk with q | q | q | q | q | q
    all_goals (subst q; exact ⟨show _ < 38 by omega, rfl⟩))
  have u : ∀ j, j ≠ k → upd F k v j = F j := fun j hj => pk_un hj
  obtain ⟨i1, i2, i3, i4, i5⟩ := hR.ii
  obtain ⟨z1, z2⟩ := hR.mul (h' := mh_up h (bd 0) (.inr (12, mh_rf bd (upd F k v)))) (σ' := σ) (F' := upd F k v) [0] (fun i hi => by simp only [List.mem_cons, List.not_mem_nil, or_false] at hi; omega) (fun b hb => mh_up_ne (hb 0 (by decide) 0 (by decide) (by decide))) (fun i hi => by
    simp only [List.mem_cons, List.not_mem_nil, or_false] at hi
    subst hi
    exact ⟨mh_up_eq _ _ _, by rw [u 3 (by omega)]; exact i1, by rw [u 4 (by omega)]; exact i2, by rw [u 5 (by omega)]; exact i3, by rw [u 23 (by omega)]; exact i4, by rw [u 15 (by omega)]; exact i5⟩) (fun j hj hn hc => by
    simp only [List.mem_cons, List.not_mem_nil, or_false] at hn
    obtain rfl | rfl | rfl | rfl | rfl | rfl | rfl | rfl | rfl | rfl : j = 1 ∨ j = 2 ∨ j = 3 ∨ j = 4 ∨ j = 5 ∨ j = 6 ∨ j = 7 ∨ j = 8 ∨ j = 9 ∨ j = 10 := by omega
    · exact hc
    · exact hc
    · obtain ⟨fb, G, h1, h2, h3, h4⟩ := hc
      exact ⟨fb, G, h1, h2, h3, by rw [u 7 (by omega)]; exact h4⟩
    · exact hc
    · exact hc
    · exact hc
    · obtain ⟨f1, f2, h1, h2, h3⟩ := hc
      exact ⟨f1, f2, h1, h2, by rw [u 16 (by omega)]; exact h3⟩
    · exact hc
    · exact hc
    · exact hc)
  exact ⟨e1, z1, z2⟩
theorem mh_r_isMint (x : Int32) : (∃ p, p < 8 ∧ x = nI p ∧ f_X12_isMint_e x h = some (1, h)) ∨ ((∀ p, p < 8 → x ≠ nI p) ∧ f_X12_isMint_e x h = some (0, h)) := by
  rcases pk_ix x (n := 8) (by omega) with q | q | ⟨p, p1, p2⟩
  · right
    refine ⟨fun p hp e => ?_, ?_⟩
    · rw [e] at q
      exact nI_pos (by omega) q
    · unfold f_X12_isMint_e
      rw [if_pos q]
      rfl
  · right
    refine ⟨fun p hp e => ?_, ?_⟩
    · rw [e] at q
      have := (nI_leI (by omega) (by omega)).mp q
      omega
    · have n0 : ¬ x < 0 := fun c => by
        have := Int32.lt_of_le_of_lt q c
        exact absurd this (by decide)
      unfold f_X12_isMint_e
      rw [if_neg n0, if_pos (show (8 : Int32) ≤ x from q)]
      rfl
  · left
    refine ⟨p, p1, p2, ?_⟩
    unfold f_X12_isMint_e
    rw [p2, if_neg (nI_pos (by omega)), if_neg (fun q => absurd ((mh_lel (a := 8) 8 rfl (by omega) (by omega)).mp q) (by omega))]
    rfl
theorem mh_r_mintAt {p : Nat} : f_X12_mintAt_e (nI p) h = some (nI (13 * p), h) := by
  unfold f_X12_mintAt_e
  rw [show (13 : Int32) = nI 13 from rfl, mh_nI_mul]
theorem mh_r_purseAt {p : Nat} : f_X12_purseAt_e (nI p) h = some (nI (104 + 25 * p), h) := by
  unfold f_X12_purseAt_e
  rw [show (25 : Int32) = nI 25 from rfl, mh_nI_mul, show (104 : Int32) = nI 104 from rfl, nI_add]
end MhModel
