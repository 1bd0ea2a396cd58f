/-! gaps, by the least sums of the rests -/
section MhGapM
variable {m : Nat} {cs : List Nat} {w : Nat → Nat}
theorem mh_ls_w (hE : mh_Ex m cs (fun x => x) w) {r : Nat} (hr : r < m) : w r = mh_INF ∨ w r % m = r := by
  by_cases h : w r = mh_INF
  · exact Or.inl h
  · obtain ⟨l, h1, h2, h3⟩ := hE.1 r hr h
    rw [mh_idm] at h3
    exact Or.inr (by rw [← h3]; exact h2)
theorem mh_ls_py (hE : mh_Ex m cs (fun x => x) w) (hm : mh_py cs m) (h0 : 0 < m) {s : Nat} (hs : s < mh_INF) : w (s % m) ≤ s ↔ mh_py cs s := by
  constructor
  · intro h
    obtain ⟨l, h1, h2, h3⟩ := hE.1 _ (Nat.mod_lt s h0) (by omega)
    rw [mh_idm] at h3
    have hq := Nat.sub_mod_eq_zero_of_mod_eq (show s % m = l.sum % m by rw [h2])
    obtain ⟨k, hk⟩ := Nat.dvd_of_mod_eq_zero hq
    have e : s = l.sum + k * m := by rw [Nat.mul_comm]; omega
    rw [e]
    exact mh_py_add ⟨_, l, h1, rfl, rfl⟩ (mh_py_mul hm k)
  · intro ⟨n, l, h1, h2, h3⟩
    have := (hE.2 l h1).1
    rw [mh_idm, h2] at this
    exact this
theorem mh_ls_gp (hE : mh_Ex m cs (fun x => x) w) (hm : mh_py cs m) (h0 : 0 < m) {s : Nat} (hs : s < mh_INF) : mh_gp m w s = true ↔ ¬ mh_py cs s := by
  unfold mh_gp
  rw [decide_eq_true_eq, ← mh_ls_py hE hm h0 hs]
  omega
theorem mh_ls_cn (hE : mh_Ex m cs (fun x => x) w) (hm : mh_py cs m) (h0 : 0 < m) {n : Nat} (hn : n ≤ mh_INF) : mh_cnt (mh_gp m w) n = mh_cn (fun s => ¬ mh_py cs s) n := by
  unfold mh_cn
  refine mh_cnt_congr n (fun r hr => ?_)
  have := mh_ls_gp hE hm h0 (s := r) (by omega)
  cases hq : mh_gp m w r with
  | true => exact (@decide_eq_true _ (Classical.propDecidable _) (this.mp hq)).symm
  | false => exact (@decide_eq_false _ (Classical.propDecidable _) (fun c => by rw [this.mpr c] at hq; cases hq)).symm
theorem mh_ls_b (hE : mh_Ex m cs (fun x => x) w) (h0 : 0 < m) (hm : m ≤ 300) (hb : ∀ x, x ∈ cs → x ≤ 300) {r : Nat} (hr : r < m) (hw : w r ≠ mh_INF) : w r ≤ 89700 := by
  have := mh_Ex_b h0 hE (W := 300) hb hr hw
  have := Nat.mul_le_mul_right 300 (show m - 1 ≤ 299 by omega)
  omega
theorem mh_ls_all (hE : mh_Ex m cs (fun x => x) w) (hm : mh_py cs m) (h0 : 0 < m) (hb : ∀ x, x ∈ cs → x ≤ 300) (hg : mh_gd cs 0 = 1) {r : Nat} (hr : r < m) : w r ≠ mh_INF := by
  obtain ⟨n, l, h1, h2, h3⟩ := mh_frob (s := r + m * 300) hm h0 hb (by rw [hg]; exact Nat.one_dvd _) (by
    have := Nat.mul_le_mul_right 300 (Nat.sub_le m 1)
    omega)
  have := (hE.2 l h1).2
  rw [h2, Nat.add_mul_mod_self_left, Nat.mod_eq_of_lt hr] at this
  exact this
/-- all gaps, counted by rests -/
theorem mh_ls_sum (hE : mh_Ex m cs (fun x => x) w) (hm : mh_py cs m) (h0 : 0 < m) (hm3 : m ≤ 300) (hb : ∀ x, x ∈ cs → x ≤ 300) (hg : mh_gd cs 0 = 1) : mh_sumr (fun r => w r / m) m = mh_cn (fun s => ¬ mh_py cs s) 100301 := by
  have hI : mh_INF = 2147483647 := rfl
  rw [← mh_ls_cn hE hm h0 (n := 100301) (by omega), ← mh_gt_sum h0 (fun r hr => mh_ls_w hE hr) 100300 (by omega)]
  refine mh_sumr_congr m (fun r hr => ?_)
  show w r / m = mh_gt m w 100300 r
  unfold mh_gt
  rw [if_pos (by omega), Nat.min_eq_right]
  have hw := mh_ls_b hE h0 hm3 hb hr (mh_ls_all hE hm h0 hb hg hr)
  have e := (mh_ls_w hE hr).resolve_left (mh_ls_all hE hm h0 hb hg hr)
  have hd := Nat.div_add_mod (w r) m
  have : w r / m ≤ (100300 - r) / m := by
    refine (Nat.le_div_iff_mul_le h0).mpr ?_
    rw [Nat.mul_comm]
    omega
  omega
end MhGapM
def mh_lg (cs : List Nat) (z : Int32) : Prop := ((∀ s, mh_py cs s) ∧ z = -1) ∨ ∃ s, s < 100000 ∧ ¬ mh_py cs s ∧ (∀ t, s < t → mh_py cs t) ∧ z = nI s
theorem mh_lg_u {cs : List Nat} {z z' : Int32} (h : mh_lg cs z) (k : mh_lg cs z') : z = z' := by
  rcases h with ⟨h1, h2⟩ | ⟨s, _, h1, h2, h3⟩
  · rcases k with ⟨_, k2⟩ | ⟨t, _, k1, k2, k3⟩
    · rw [h2, k2]
    · exact absurd (h1 t) k1
  · rcases k with ⟨k1, _⟩ | ⟨t, _, k1, k2, k3⟩
    · exact absurd (k1 s) h1
    · rcases Nat.lt_trichotomy s t with q | q | q
      · exact absurd (h2 t q) k1
      · rw [h3, k3, q]
      · exact absurd (k2 s q) h1
/-- the last gap, by the greatest of the least sums -/
theorem mh_ls_last {cs : List Nat} {w : Nat → Nat} (hms : mh_ms cs) (hne : cs ≠ []) (hE : mh_Ex (cs.getD 0 0) cs (fun x => x) w) (hg : mh_gd cs 0 = 1) : mh_lg cs (nI (mh_maxr w (cs.getD 0 0)) - nI (cs.getD 0 0)) ∧ (cs.getD 0 0 ≠ 1 → ∃ s, mh_maxr w (cs.getD 0 0) = s + cs.getD 0 0 ∧ ¬ mh_py cs s ∧ (∀ t, s < t → mh_py cs t) ∧ s < 100000) ∧ (cs.getD 0 0 = 1 → ∀ s, mh_py cs s) := by
  have hl := List.length_pos_iff.mpr hne
  have h0 := (hms.1.get hl).1
  have h3 := (hms.1.get hl).2
  have hm := mh_py_c (mh_get_mem hl)
  have hb : ∀ x, x ∈ cs → x ≤ 300 := fun x hx => (hms.1.2 x hx).2
  have hI : mh_INF = 2147483647 := rfl
  have one : cs.getD 0 0 = 1 → ∀ s, mh_py cs s := fun e s => by
    have := mh_py_mul hm s
    rw [e, Nat.mul_one] at this
    exact this
  have big : cs.getD 0 0 ≠ 1 → ∃ s, mh_maxr w (cs.getD 0 0) = s + cs.getD 0 0 ∧ ¬ mh_py cs s ∧ (∀ t, s < t → mh_py cs t) ∧ s < 100000 := fun hn => by
    obtain ⟨r, r1, r2⟩ := mh_maxr_at (w := w) _ h0
    have ge : ∀ x, x ∈ cs → cs.getD 0 0 ≤ x := fun x hx => by
      obtain ⟨j, j1, j2⟩ := mh_mem_get hx
      by_cases hj : j = 0
      · rw [← j2, hj]; exact Nat.le_refl _
      · rw [← j2]; exact Nat.le_of_lt (mh_pw_ne hms.2 (by omega) j1)
    have n1 : ¬ mh_py cs 1 := fun ⟨n, hp⟩ => by
      obtain ⟨c, q, c1, c2, _⟩ := mh_pay_inv hp (by omega)
      have := ge c c1
      omega
    have w1 := (mh_ls_w hE (show 1 < cs.getD 0 0 by omega)).resolve_left (mh_ls_all hE hm h0 hb hg (by omega))
    have w1b : cs.getD 0 0 ≤ w 1 := by
      refine Nat.le_of_not_lt (fun q => ?_)
      rw [Nat.mod_eq_of_lt q] at w1
      exact n1 ((mh_ls_py hE hm h0 (s := 1) (by omega)).mp (by rw [Nat.mod_eq_of_lt (by omega), w1]; exact Nat.le_refl _))
    have mge := mh_maxr_ge (w := w) _ 1 (show 1 < cs.getD 0 0 by omega)
    have wr := (mh_ls_w hE r1).resolve_left (mh_ls_all hE hm h0 hb hg r1)
    have wb := mh_ls_b hE h0 h3 hb r1 (mh_ls_all hE hm h0 hb hg r1)
    refine ⟨mh_maxr w (cs.getD 0 0) - cs.getD 0 0, by omega, fun hp => ?_, fun t ht => ?_, by omega⟩
    · have hs : (mh_maxr w (cs.getD 0 0) - cs.getD 0 0) % cs.getD 0 0 = r := by
        have : (mh_maxr w (cs.getD 0 0) - cs.getD 0 0 + cs.getD 0 0) % cs.getD 0 0 = r := by rw [Nat.sub_add_cancel (by omega), r2]; exact wr
        rw [Nat.add_mod_right] at this
        exact this
      have := (mh_ls_py hE hm h0 (s := mh_maxr w (cs.getD 0 0) - cs.getD 0 0) (by omega)).mpr hp
      rw [hs] at this
      omega
    · by_cases hI2 : t < mh_INF
      · refine (mh_ls_py hE hm h0 hI2).mp ?_
        have hrt := Nat.mod_lt t h0
        have wt := (mh_ls_w hE hrt).resolve_left (mh_ls_all hE hm h0 hb hg hrt)
        have mt := mh_maxr_ge (w := w) _ _ hrt
        refine Nat.le_of_not_lt (fun q => ?_)
        have hq := Nat.sub_mod_eq_zero_of_mod_eq (show w (t % cs.getD 0 0) % cs.getD 0 0 = t % cs.getD 0 0 from wt)
        obtain ⟨k, hk⟩ := Nat.dvd_of_mod_eq_zero hq
        have hk1 : 1 ≤ k := Nat.one_le_iff_ne_zero.mpr (fun z => by rw [z, Nat.mul_zero] at hk; omega)
        have := Nat.mul_le_mul_left (cs.getD 0 0) hk1
        omega
      · exact mh_frob hm h0 hb (by rw [hg]; exact Nat.one_dvd _) (by have := Nat.mul_le_mul_right 300 (show cs.getD 0 0 - 1 ≤ 299 by omega); omega)
  refine ⟨?_, big, one⟩
  by_cases hn : cs.getD 0 0 = 1
  · refine Or.inl ⟨one hn, ?_⟩
    have hz : mh_maxr w 1 = w 0 := by
      rw [mh_maxr, mh_maxr]
      omega
    have w0 : w 0 = 0 := by
      have := (hE.2 [] (fun x hx => absurd hx List.not_mem_nil)).1
      rw [show ([] : List Nat).sum % cs.getD 0 0 = 0 from Nat.zero_mod _] at this
      exact Nat.le_zero.mp this
    rw [hn, hz, w0]
    rfl
  · obtain ⟨s, e, s1, s2, s3⟩ := big hn
    refine Or.inr ⟨s, s3, s1, s2, ?_⟩
    rw [e, pk_sub (by omega), Nat.add_sub_cancel]
theorem mh_cn_mono {P : Nat → Prop} {a b : Nat} (h : a ≤ b) : mh_cn P a ≤ mh_cn P b := mh_cnt_mono _ h
theorem mh_cn_flat {P : Nat → Prop} {a : Nat} (hP : ∀ t, a ≤ t → ¬ P t) : ∀ d, mh_cn P (a + d) = mh_cn P a := by
  intro d
  induction d with
  | zero => rfl
  | succ d ih => rw [← Nat.add_assoc, mh_cn_n (hP _ (by omega)), ih]
theorem mh_cnt_head (q : Nat → Bool) : ∀ n, mh_cnt q (n + 1) = (if q 0 then 1 else 0) + mh_cnt (fun s => q (s + 1)) n := by
  intro n
  induction n with
  | zero => rw [mh_cnt, mh_cnt, mh_cnt]; omega
  | succ n ih => rw [mh_cnt, ih, mh_cnt]; omega
theorem mh_cnt_rev : ∀ (n : Nat) (q : Nat → Bool), mh_cnt (fun s => q (n - s)) (n + 1) = mh_cnt q (n + 1) := by
  intro n
  induction n with
  | zero => intro q; rw [mh_cnt, mh_cnt, mh_cnt, mh_cnt]
  | succ n ih =>
    intro q
    rw [mh_cnt_head]
    have e : mh_cnt (fun s => q (n + 1 - (s + 1))) (n + 1) = mh_cnt (fun s => q (n - s)) (n + 1) := mh_cnt_congr _ (fun r _ => by show q (n + 1 - (r + 1)) = q (n - r); congr 1; omega)
    show (if q (n + 1 - 0) then 1 else 0) + mh_cnt (fun s => q (n + 1 - (s + 1))) (n + 1) = _
    rw [e, ih q, Nat.sub_zero]
    show _ = mh_cnt q (n + 1) + (if q (n + 1) then 1 else 0)
    omega
theorem mh_cnt_not (q : Nat → Bool) : ∀ n, mh_cnt q n + mh_cnt (fun s => !q s) n = n := by
  intro n
  induction n with
  | zero => rfl
  | succ n ih =>
    rw [mh_cnt, mh_cnt]
    cases q n <;> simp <;> omega
theorem mh_cnt_sub {p q : Nat → Bool} : ∀ n, (∀ s, s < n → p s = true → q s = true) → mh_cnt p n ≤ mh_cnt q n ∧ (mh_cnt p n = mh_cnt q n → ∀ s, s < n → q s = true → p s = true) := by
  intro n
  induction n with
  | zero => intro _; exact ⟨Nat.le_refl _, fun _ s hs => absurd hs (Nat.not_lt_zero s)⟩
  | succ n ih =>
    intro h
    obtain ⟨i1, i2⟩ := ih (fun s hs => h s (by omega))
    have hn := h n (by omega)
    rw [mh_cnt, mh_cnt]
    cases hp : p n with
    | true =>
      rw [hn hp]
      refine ⟨by omega, fun e s hs hq => ?_⟩
      by_cases hsn : s = n
      · rw [hsn]; exact hp
      · exact i2 (by simpa using e) s (by omega) hq
    | false =>
      cases hq : q n with
      | true => exact ⟨by simp; omega, fun e => by simp at e; omega⟩
      | false =>
        refine ⟨by simpa using i1, fun e s hs hqs => ?_⟩
        by_cases hsn : s = n
        · rw [hsn, hq] at hqs; cases hqs
        · exact i2 (by simpa using e) s (by omega) hqs
/-- just half of the sums up to the last gap are gaps, if and only if they mirror -/
theorem mh_mirror {cs : List Nat} {L : Nat} (hL : ¬ mh_py cs L) : 2 * mh_cn (fun s => ¬ mh_py cs s) (L + 1) = L + 1 ↔ ∀ s, s ≤ L → (mh_py cs s ↔ ¬ mh_py cs (L - s)) := by
  obtain ⟨q, hq⟩ : ∃ q : Nat → Bool, ∀ s, q s = true ↔ mh_py cs s := ⟨fun s => @decide (mh_py cs s) (Classical.propDecidable _), fun s => @decide_eq_true_iff _ (Classical.propDecidable _)⟩
  have e1 : mh_cn (fun s => ¬ mh_py cs s) (L + 1) = mh_cnt (fun s => !q s) (L + 1) := by
    unfold mh_cn
    refine mh_cnt_congr _ (fun r _ => ?_)
    cases hr : q r with
    | true => exact @decide_eq_false _ (Classical.propDecidable _) (fun c => c ((hq r).mp hr))
    | false => exact @decide_eq_true _ (Classical.propDecidable _) (fun c => by rw [(hq r).mpr c] at hr; cases hr)
  have c1 := mh_cnt_not q (L + 1)
  have c2 := mh_cnt_rev L q
  have sub := mh_cnt_sub (p := fun s => q (L - s)) (q := fun s => !q s) (L + 1) (fun s hs h => by
    show (!q s) = true
    cases hs2 : q s with
    | false => rfl
    | true =>
      exfalso
      have := mh_py_add ((hq _).mp hs2) ((hq _).mp h)
      rw [show s + (L - s) = L by omega] at this
      exact hL this)
  rw [e1]
  constructor
  · intro h s hs
    have h2 := sub.2 (by omega) s (by omega)
    constructor
    · intro p1 p2
      have := mh_py_add p1 p2
      rw [show s + (L - s) = L by omega] at this
      exact hL this
    · intro p1
      refine Classical.byContradiction (fun p2 => ?_)
      have : (!q s) = true := by
        cases hs2 : q s with
        | false => rfl
        | true => exact absurd ((hq s).mp hs2) p2
      exact p1 ((hq _).mp (h2 this))
  · intro h
    have e : mh_cnt (fun s => q (L - s)) (L + 1) = mh_cnt (fun s => !q s) (L + 1) := mh_cnt_congr _ (fun s hs => by
      have := h s (by omega)
      show q (L - s) = !q s
      cases h1 : q s with
      | true =>
        cases h2 : q (L - s) with
        | true => exact absurd ((hq _).mp h2) (this.mp ((hq s).mp h1))
        | false => rfl
      | false =>
        cases h2 : q (L - s) with
        | true => rfl
        | false =>
          have : mh_py cs s := this.mpr (fun c => by rw [(hq _).mpr c] at h2; cases h2)
          rw [(hq s).mpr this] at h1
          cases h1)
    omega
