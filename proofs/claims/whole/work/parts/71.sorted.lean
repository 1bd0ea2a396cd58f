/-! rising values: where they stand -/
theorem mh_tw_len {p : Nat → Bool} : ∀ (l : List Nat) (i : Nat), i ≤ l.length → (∀ j, j < i → p (l.getD j 0) = true) → (i < l.length → p (l.getD i 0) = false) → (l.takeWhile p).length = i := by
  intro l
  induction l with
  | nil => intro i h _ _; rw [show i = 0 from Nat.le_zero.mp h]; rfl
  | cons x l ih =>
    intro i h1 h2 h3
    cases i with
    | zero =>
      have := h3 (by simp)
      have this : p x = false := this
      rw [List.takeWhile_cons, if_neg (by rw [this]; exact Bool.false_ne_true)]
      rfl
    | succ i =>
      have this : p x = true := h2 0 (by omega)
      rw [List.takeWhile_cons, if_pos this, List.length_cons, ih i (by simpa using h1) (fun j hj => h2 (j + 1) (by omega)) (fun hl => h3 (by simpa using hl))]
theorem mh_pf_is {cs : List Nat} {i x : Nat} (hx : x < 2 ^ 31) (hb : ∀ c, c ∈ cs → c < 2 ^ 31) (hi : i ≤ cs.length) (h1 : ∀ j, j < i → cs.getD j 0 < x) (h2 : i < cs.length → x ≤ cs.getD i 0) : mh_pf cs (nI x) = i := by
  unfold mh_pf
  refine mh_tw_len cs i hi (fun j hj => decide_eq_true ?_) (fun hl => decide_eq_false ?_)
  · exact (nI_ltI (hb _ (mh_get_mem (by omega))) hx).mpr (h1 j hj)
  · intro q
    have := (nI_ltI (hb _ (mh_get_mem hl)) hx).mp q
    have := h2 hl
    omega
theorem mh_pf_get {cs : List Nat} (h : mh_ms cs) {i : Nat} (hi : i < cs.length) : mh_pf cs (nI (cs.getD i 0)) = i :=
  mh_pf_is (by have := h.1.le i; omega) (fun c hc => by have := (h.1.2 c hc).2; omega) (by omega) (fun j hj => mh_pw_ne h.2 hj hi) (fun _ => Nat.le_refl _)
theorem mh_hd_iff {cs : List Nat} (h : mh_ms cs) {x : Nat} (hx : x < 2 ^ 31) : mh_hd cs (nI x) = true ↔ x ∈ cs := by
  constructor
  · intro q
    have a := mh_hd_pf q
    have b := mh_hd_val q
    have := (nI_eq (by have := h.1.le (mh_pf cs (nI x)); omega) hx).mp b
    rw [← this]
    exact mh_get_mem a
  · intro q
    obtain ⟨i, i1, i2⟩ := mh_mem_get q
    simp only [mh_hd, decide_eq_true_eq]
    rw [← i2, mh_pf_get h i1]
    exact ⟨i1, rfl⟩
theorem mh_ms_app {cs : List Nat} {c : Nat} (h : mh_ms cs) (hl : cs.length < 12) (h1 : 1 ≤ c) (h2 : c ≤ 300) (h3 : ∀ x, x ∈ cs → x < c) : mh_ms (cs ++ [c]) := by
  refine ⟨⟨by rw [List.length_append]; show cs.length + 1 ≤ 12; omega, fun x hx => ?_⟩, List.pairwise_append.mpr ⟨h.2, List.pairwise_singleton _ _, fun x hx y hy => ?_⟩⟩
  · rcases List.mem_append.mp hx with q | q
    · exact h.1.2 x q
    · rw [List.mem_singleton.mp q]; exact ⟨h1, h2⟩
  · rw [List.mem_singleton.mp hy]; exact h3 x hx
theorem mh_ms_nil : mh_ms [] := ⟨⟨Nat.zero_le _, fun x hx => absurd hx List.not_mem_nil⟩, List.Pairwise.nil⟩
theorem mh_ms_sub {cs ds : List Nat} (h : mh_ms cs) (hs : ds.Sublist cs) : mh_ms ds := ⟨⟨Nat.le_trans hs.length_le h.1.1, fun x hx => h.1.2 x (hs.subset hx)⟩, h.2.sublist hs⟩
/-! the search for stamps -/
theorem mh_up2_ex (cs : List Nat) (H : Nat) (hb : ∀ x, x ∈ cs → x ≤ 300) : ∃ s, mh_up2 cs H s := by
  obtain ⟨k, h1, h2⟩ := pk_least (fun s => ¬ ∃ n, mh_mn cs s = some n ∧ n ≤ H) ⟨H * 300 + 1, fun ⟨n, e1, e2⟩ => by
    have := mh_pay_max hb (mh_mn_pay e1)
    have := Nat.mul_le_mul_right 300 e2
    omega⟩
  have hk : k ≠ 0 := fun q => h1 (by rw [q]; exact ⟨0, mh_mn0 cs, Nat.zero_le _⟩)
  refine ⟨k - 1, fun x hx => Classical.byContradiction (fun q => h2 x (by omega) q), ?_⟩
  rw [show k - 1 + 1 = k by omega]
  exact h1
noncomputable def mh_rh (cs : List Nat) (H : Nat) : Nat := @dite _ (∃ s, mh_up2 cs H s) (Classical.propDecidable _) (fun h => Classical.choose h) (fun _ => 0)
theorem mh_rh_is {cs : List Nat} {H s : Nat} (h : mh_up2 cs H s) : mh_rh cs H = s := by
  unfold mh_rh
  rw [dif_pos ⟨s, h⟩]
  exact mh_up2_unique (Classical.choose_spec (⟨s, h⟩ : ∃ s, mh_up2 cs H s)) h
/-- how many cases, the greatest stamps, and whose -/
abbrev mh_St : Type := Nat × Nat × List Nat
noncomputable def mh_se (H : Nat) : Nat → List Nat → mh_St → mh_St
  | 0, b, st => if 2000 < st.1 + 1 then (st.1 + 1, st.2) else (if st.2.1 < mh_rh b H then (st.1 + 1, mh_rh b H, b) else (st.1 + 1, st.2))
  | d + 1, b, st => if 2000 < st.1 + 1 then (st.1 + 1, st.2) else (List.range' (b.getD (b.length - 1) 0 + 1) (min (mh_rh b H + 1) 300 - b.getD (b.length - 1) 0)).foldl (fun st c => if st.1 ≤ 2000 then mh_se H d (b ++ [c]) st else st) (st.1 + 1, st.2)
noncomputable def mh_sl (H d : Nat) (b : List Nat) (c m : Nat) (st : mh_St) : mh_St := (List.range' c m).foldl (fun st c => if st.1 ≤ 2000 then mh_se H d (b ++ [c]) st else st) st
theorem mh_sl_0 {H d c : Nat} {b : List Nat} {st : mh_St} : mh_sl H d b c 0 st = st := rfl
theorem mh_sl_s {H d c m : Nat} {b : List Nat} {st : mh_St} (h : st.1 ≤ 2000) : mh_sl H d b c (m + 1) st = mh_sl H d b (c + 1) m (mh_se H d (b ++ [c]) st) := by
  unfold mh_sl
  rw [List.range'_succ, List.foldl_cons, if_pos h]
theorem mh_sl_stop {H d : Nat} {b : List Nat} : ∀ (m c : Nat) (st : mh_St), 2000 < st.1 → mh_sl H d b c m st = st := by
  intro m
  induction m with
  | zero => intro c st _; rfl
  | succ m ih =>
    intro c st h
    unfold mh_sl at ih ⊢
    rw [List.range'_succ, List.foldl_cons, if_neg (by omega)]
    exact ih (c + 1) st h
theorem mh_se_over {H d : Nat} {b : List Nat} {st : mh_St} (h : 2000 ≤ st.1) : mh_se H d b st = (st.1 + 1, st.2) := by
  cases d with
  | zero => rw [mh_se, if_pos (by omega)]
  | succ d => rw [mh_se, if_pos (by omega)]
theorem mh_se_leaf {H : Nat} {b : List Nat} {st : mh_St} (h : st.1 < 2000) : mh_se H 0 b st = if st.2.1 < mh_rh b H then (st.1 + 1, mh_rh b H, b) else (st.1 + 1, st.2) := by
  rw [mh_se, if_neg (by omega)]
theorem mh_se_node {H d : Nat} {b : List Nat} {st : mh_St} (h : st.1 < 2000) : mh_se H (d + 1) b st = mh_sl H d b (b.getD (b.length - 1) 0 + 1) (min (mh_rh b H + 1) 300 - b.getD (b.length - 1) 0) (st.1 + 1, st.2) := by
  rw [mh_se, if_neg (by omega)]
  rfl
/-- what is still to do, from depth d down: next N and limits L of each depth, in a search of k -/
noncomputable def mh_rm1 (H k : Nat) (N L : Nat → Nat) (b : List Nat) : Nat → mh_St → mh_St
  | 0, st => mh_sl H (k - 1) [] (N 0) (L 0 + 1 - N 0) st
  | d + 1, st => mh_rm1 H k N L b d (if d + 1 < k then mh_sl H (k - (d + 1) - 1) (b.take (d + 1)) (N (d + 1)) (L (d + 1) + 1 - N (d + 1)) st else st)
theorem mh_rm1_congr {H k : Nat} {N L N' L' : Nat → Nat} {b b' : List Nat} : ∀ (d : Nat) (st : mh_St), (∀ i, i ≤ d → N i = N' i ∧ L i = L' i) → (∀ i, i ≤ d → b.take i = b'.take i) → mh_rm1 H k N L b d st = mh_rm1 H k N' L' b' d st := by
  intro d
  induction d with
  | zero => intro st h _; rw [mh_rm1, mh_rm1, (h 0 (by omega)).1, (h 0 (by omega)).2]
  | succ d ih =>
    intro st h h2
    rw [mh_rm1, mh_rm1, (h (d + 1) (by omega)).1, (h (d + 1) (by omega)).2, h2 (d + 1) (by omega), ih _ (fun i hi => h i (by omega)) (fun i hi => h2 i (by omega))]
theorem mh_rm1_stop {H k : Nat} {N L : Nat → Nat} {b : List Nat} : ∀ (d : Nat) (st : mh_St), 2000 < st.1 → mh_rm1 H k N L b d st = st := by
  intro d
  induction d with
  | zero => intro st h; rw [mh_rm1, mh_sl_stop _ _ _ h]
  | succ d ih =>
    intro st h
    rw [mh_rm1]
    by_cases hk : d + 1 < k
    · rw [if_pos hk, mh_sl_stop _ _ _ h]; exact ih st h
    · rw [if_neg hk]; exact ih st h
