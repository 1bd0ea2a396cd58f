/-! the wheel: what non-greatest coins lack to the greatest -/
theorem mh_tp_ok {cs : List Nat} (h : mh_ms cs) (hne : cs ≠ []) : mh_gr cs (mh_tp cs) ∧ mh_tp cs ≤ 300 ∧ (∀ x, x ∈ cs.dropLast → x ∈ cs ∧ 1 ≤ x ∧ x < mh_tp cs) ∧ ∀ x, x ∈ cs → x = mh_tp cs ∨ x ∈ cs.dropLast := by
  have hl := List.length_pos_iff.mpr hne
  have e : mh_tp cs = cs.getLast hne := by
    unfold mh_tp
    rw [List.getD_eq_getElem?_getD, List.getElem?_eq_getElem (by omega), List.getLast_eq_getElem]
    rfl
  have ea := List.dropLast_concat_getLast hne
  rw [← e] at ea
  have hm : mh_tp cs ∈ cs := by rw [e]; exact List.getLast_mem hne
  have hpw := h.2
  rw [← ea] at hpw
  have hlt := (List.pairwise_append.mp hpw).2.2
  have h4 : ∀ x, x ∈ cs → x = mh_tp cs ∨ x ∈ cs.dropLast := fun x hx => by
    rw [← ea] at hx
    rcases List.mem_append.mp hx with q | q
    · exact Or.inr q
    · exact Or.inl (List.mem_singleton.mp q)
  have h3 : ∀ x, x ∈ cs.dropLast → x ∈ cs ∧ 1 ≤ x ∧ x < mh_tp cs := fun x hx => by
    have hx1 : x ∈ cs := List.dropLast_subset cs hx
    exact ⟨hx1, (h.1.2 x hx1).1, hlt x hx _ (List.mem_singleton.mpr rfl)⟩
  refine ⟨⟨hm, fun x hx => ⟨(h.1.2 x hx).1, ?_⟩⟩, (h.1.2 _ hm).2, h3, h4⟩
  rcases h4 x hx with q | q
  · omega
  · exact Nat.le_of_lt (h3 x q).2.2
def mh_lk (g : Nat) (l : List Nat) : Nat := (l.map (fun c => g - c)).sum
theorem mh_wf_sum (g : Nat) : ∀ (l : List Nat), (l.map (mh_wf g)).sum = mh_lk g l * 1000 + l.length := by
  intro l
  induction l with
  | nil => simp [mh_lk]
  | cons c l ih =>
    unfold mh_lk at ih ⊢
    rw [List.map_cons, List.sum_cons, ih, List.map_cons, List.sum_cons, List.length_cons]
    unfold mh_wf
    omega
theorem mh_lk_sum {g : Nat} : ∀ (l : List Nat), (∀ x, x ∈ l → x ≤ g) → l.sum + mh_lk g l = l.length * g := by
  intro l
  induction l with
  | nil => intro _; exact (Nat.zero_mul g).symm
  | cons c l ih =>
    intro h
    have a := h c List.mem_cons_self
    have b := ih (fun x hx => h x (List.mem_cons_of_mem c hx))
    unfold mh_lk at b ⊢
    rw [List.map_cons, List.sum_cons, List.sum_cons, List.length_cons, Nat.succ_mul]
    omega
section MhWheel
variable {g : Nat} {D : List Nat} {w : Nat → Nat}
theorem mh_wl_short (hE : mh_Ex g D (mh_wf g) w) (hg : 0 < g) {r : Nat} {l : List Nat} (h1 : ∀ x, x ∈ l → x ∈ D) (h2 : l.sum % g = r) (h3 : (l.map (mh_wf g)).sum = w r) : l.length < g := by
  refine Nat.lt_of_not_le (fun hc => ?_)
  obtain ⟨a, b, c, e, hb, _, q, hq⟩ := mh_blk hg hc
  have hbl := List.length_pos_iff.mpr hb
  have k := hE.2 (a ++ c) (fun x hx => h1 x (by rw [e]; rcases List.mem_append.mp hx with q | q; exact List.mem_append_left _ q; exact List.mem_append_right _ (List.mem_append_right _ q)))
  have es : (a ++ c).sum % g = r := by
    rw [← h2, e]
    simp only [List.sum_append_nat]
    rw [hq, show a.sum + (g * q + c.sum) = a.sum + c.sum + g * q by omega, Nat.add_mul_mod_self_left]
  rw [es, ← h3, e] at k
  have k1 := k.1
  rw [mh_wf_sum, mh_wf_sum] at k1
  unfold mh_lk at k1
  simp only [List.map_append, List.sum_append_nat, List.length_append] at k1
  omega
theorem mh_wl_ex (hE : mh_Ex g D (mh_wf g) w) (hg : 0 < g) (hg2 : g ≤ 300) {r : Nat} (hr : r < g) (hw : w r ≠ mh_INF) : ∃ l : List Nat, (∀ x, x ∈ l → x ∈ D) ∧ l.sum % g = r ∧ l.length < g ∧ w r / 1000 = mh_lk g l ∧ w r % 1000 = l.length ∧ (l.map (mh_wf g)).sum = w r := by
  obtain ⟨l, h1, h2, h3⟩ := hE.1 r hr hw
  have h4 := mh_wl_short hE hg h1 h2 h3
  have h5 := mh_wf_sum g l
  exact ⟨l, h1, h2, h4, by omega, by omega, h3⟩
/-- no coins lead to a rest with less lack -/
theorem mh_wl_lack (hE : mh_Ex g D (mh_wf g) w) (hg : 0 < g) (hg2 : g ≤ 300) {l : List Nat} (h1 : ∀ x, x ∈ l → x ∈ D) : w (l.sum % g) ≠ mh_INF ∧ w (l.sum % g) / 1000 ≤ mh_lk g l := by
  obtain ⟨l', q1, q2, q3, q4, q5⟩ := mh_short hg (fun c => g - c) l.length l (Nat.le_refl _)
  have k := hE.2 l' (fun x hx => h1 x (q2 x hx))
  rw [q3, mh_wf_sum] at k
  have q4 : mh_lk g l' ≤ mh_lk g l := q4
  exact ⟨k.2, by omega⟩
end MhWheel
/-- the sum from which on the wheel tells -/
def mh_fm (g : Nat) (w : Nat → Nat) (r : Nat) : Nat := w r % 1000 * g - w r / 1000
section MhWheel2
variable {cs : List Nat} {w : Nat → Nat}
theorem mh_whl_none (hms : mh_ms cs) (hne : cs ≠ []) (hE : mh_Ex (mh_tp cs) cs.dropLast (mh_wf (mh_tp cs)) w) {s : Nat} (hw : w (s % mh_tp cs) = mh_INF) : mh_mn cs s = none := by
  obtain ⟨g1, g2, g3, g4⟩ := mh_tp_ok hms hne
  have gp := (g1.2 _ g1.1).1
  refine mh_mn_none.mpr (fun ⟨n, l, h1, h2, h3⟩ => ?_)
  obtain ⟨l0, k, q1, q2, _, _⟩ := mh_out (fun x => x) (mh_tp cs) l
  have h0 : ∀ x, x ∈ l0 → x ∈ cs.dropLast := fun x hx => (g4 x (h1 x (q1 x hx).1)).resolve_left (q1 x hx).2
  have := (mh_wl_lack hE gp g2 h0).1
  have e : s % mh_tp cs = l0.sum % mh_tp cs := by rw [← h2, q2, Nat.add_mul_mod_self_right]
  rw [← e] at this
  exact this hw
theorem mh_whl_fm (hms : mh_ms cs) (hne : cs ≠ []) (hE : mh_Ex (mh_tp cs) cs.dropLast (mh_wf (mh_tp cs)) w) {r : Nat} (hr : r < mh_tp cs) (hw : w r ≠ mh_INF) : mh_fm (mh_tp cs) w r % mh_tp cs = r ∧ mh_fm (mh_tp cs) w r < 90000 ∧ w r / 1000 + mh_fm (mh_tp cs) w r = w r % 1000 * mh_tp cs ∧ w r % 1000 < mh_tp cs ∧ w r / 1000 < 90000 := by
  obtain ⟨g1, g2, g3, g4⟩ := mh_tp_ok hms hne
  have gp := (g1.2 _ g1.1).1
  obtain ⟨l, h1, h2, h3, h4, h5, _⟩ := mh_wl_ex hE gp g2 hr hw
  have h6 := mh_lk_sum l (fun x hx => Nat.le_of_lt (g3 x (h1 x hx)).2.2)
  have h7 := Nat.mul_le_mul (show l.length ≤ 299 by omega) g2
  have e : mh_fm (mh_tp cs) w r = l.sum := by
    unfold mh_fm
    rw [h4, h5]
    omega
  rw [e, h4, h5]
  exact ⟨h2, by omega, by omega, h3, by omega⟩
theorem mh_whl_size (hms : mh_ms cs) (hne : cs ≠ []) (hE : mh_Ex (mh_tp cs) cs.dropLast (mh_wf (mh_tp cs)) w) {s : Nat} (hw : w (s % mh_tp cs) ≠ mh_INF) (hf : mh_fm (mh_tp cs) w (s % mh_tp cs) ≤ s) : mh_mn cs s = some ((s + w (s % mh_tp cs) / 1000) / mh_tp cs) ∧ (s + w (s % mh_tp cs) / 1000) / mh_tp cs * mh_tp cs = s + w (s % mh_tp cs) / 1000 := by
  obtain ⟨g1, g2, g3, g4⟩ := mh_tp_ok hms hne
  have gp := (g1.2 _ g1.1).1
  have hr := Nat.mod_lt s gp
  obtain ⟨l, h1, h2, h3, h4, h5, _⟩ := mh_wl_ex hE gp g2 hr hw
  have h6 := mh_lk_sum l (fun x hx => Nat.le_of_lt (g3 x (h1 x hx)).2.2)
  have e : mh_fm (mh_tp cs) w (s % mh_tp cs) = l.sum := by
    unfold mh_fm
    rw [h4, h5]
    omega
  rw [e] at hf
  obtain ⟨q, hq⟩ : ∃ q, s = l.sum + q * mh_tp cs := by
    have := Nat.sub_mod_eq_zero_of_mod_eq h2.symm
    obtain ⟨q, hq⟩ := Nat.dvd_of_mod_eq_zero this
    exact ⟨q, by rw [Nat.mul_comm]; omega⟩
  have hsum : s + mh_lk (mh_tp cs) l = (l.length + q) * mh_tp cs := by
    rw [Nat.add_mul]
    omega
  rw [h4, hsum, Nat.mul_div_cancel _ gp]
  refine ⟨mh_mn_some.mpr ⟨⟨l ++ List.replicate q (mh_tp cs), fun x hx => ?_, ?_, ?_⟩, fun m hm => ?_⟩, rfl⟩
  · rcases List.mem_append.mp hx with hx | hx
    · exact (g3 x (h1 x hx)).1
    · rw [(List.mem_replicate.mp hx).2]; exact g1.1
  · rw [List.sum_append_nat, List.sum_replicate_nat]; omega
  · rw [List.length_append, List.length_replicate]
  · obtain ⟨l', p1, p2, p3⟩ := hm
    obtain ⟨l0, k, r1, r2, _, r4⟩ := mh_out (fun x => x) (mh_tp cs) l'
    have h0 : ∀ x, x ∈ l0 → x ∈ cs.dropLast := fun x hx => (g4 x (p1 x (r1 x hx).1)).resolve_left (r1 x hx).2
    have hl := (mh_wl_lack hE gp g2 h0).2
    have e : s % mh_tp cs = l0.sum % mh_tp cs := by rw [← p2, r2, Nat.add_mul_mod_self_right]
    rw [← e, h4] at hl
    have h8 := mh_lk_sum l0 (fun x hx => Nat.le_of_lt (g3 x (h0 x hx)).2.2)
    have : (l.length + q) * mh_tp cs ≤ m * mh_tp cs := by
      rw [← p3, r4, Nat.add_mul l0.length]
      omega
    exact Nat.le_of_mul_le_mul_right this gp
end MhWheel2
