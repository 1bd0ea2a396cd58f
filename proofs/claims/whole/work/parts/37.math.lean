/-! payings, as lists of coins -/
def mh_pay (cs : List Nat) (s n : Nat) : Prop := ∃ l : List Nat, (∀ x, x ∈ l → x ∈ cs) ∧ l.sum = s ∧ l.length = n
def mh_py (cs : List Nat) (s : Nat) : Prop := ∃ n, mh_pay cs s n
theorem mh_sum_er {c : Nat} : ∀ (l : List Nat), c ∈ l → (l.erase c).sum + c = l.sum := by
  intro l
  induction l with
  | nil => intro h; exact absurd h List.not_mem_nil
  | cons x l ih =>
    intro h
    by_cases hx : x = c
    · subst hx
      rw [List.erase_cons_head, List.sum_cons]
      omega
    · rw [List.erase_cons_tail (by simpa using hx), List.sum_cons, List.sum_cons]
      have := ih ((List.mem_cons.mp h).resolve_left (fun q => hx q.symm))
      omega
theorem mh_pay0 (cs : List Nat) : mh_pay cs 0 0 := ⟨[], fun x h => absurd h List.not_mem_nil, rfl, rfl⟩
theorem mh_pay_c {cs : List Nat} {c s n : Nat} (hc : c ∈ cs) (h : mh_pay cs s n) : mh_pay cs (s + c) (n + 1) := by
  obtain ⟨l, h1, h2, h3⟩ := h
  exact ⟨c :: l, fun x hx => (List.mem_cons.mp hx).elim (fun q => q ▸ hc) (h1 x), by rw [List.sum_cons]; omega, by rw [List.length_cons]; omega⟩
theorem mh_pay_add {cs : List Nat} {s n t m : Nat} (h : mh_pay cs s n) (k : mh_pay cs t m) : mh_pay cs (s + t) (n + m) := by
  obtain ⟨l, h1, h2, h3⟩ := h
  obtain ⟨r, k1, k2, k3⟩ := k
  exact ⟨l ++ r, fun x hx => (List.mem_append.mp hx).elim (h1 x) (k1 x), by rw [List.sum_append_nat]; omega, by rw [List.length_append]; omega⟩
theorem mh_pay_sub {cs ds : List Nat} {s n : Nat} (h : mh_pay cs s n) (hd : ∀ x, x ∈ cs → x ∈ ds) : mh_pay ds s n := by
  obtain ⟨l, h1, h2, h3⟩ := h
  exact ⟨l, fun x hx => hd x (h1 x hx), h2, h3⟩
theorem mh_mem_le {c : Nat} {l : List Nat} (h : c ∈ l) : c ≤ l.sum := by
  have := mh_sum_er l h
  omega
theorem mh_er {l : List Nat} {c s n : Nat} {cs : List Nat} (h1 : ∀ x, x ∈ l → x ∈ cs) (h2 : l.sum = s) (h3 : l.length = n) (hc : c ∈ l) : c ≤ s ∧ 0 < n ∧ mh_pay cs (s - c) (n - 1) := by
  have e1 := mh_sum_er l hc
  have e2 := List.length_erase_of_mem hc
  have e3 := List.length_pos_of_mem hc
  exact ⟨by omega, by omega, l.erase c, fun x hx => h1 x (List.mem_of_mem_erase hx), by omega, by omega⟩
theorem mh_pay_inv {cs : List Nat} {s n : Nat} (h : mh_pay cs s n) (hs : 0 < s) : ∃ c m, c ∈ cs ∧ c ≤ s ∧ n = m + 1 ∧ mh_pay cs (s - c) m := by
  obtain ⟨l, h1, h2, h3⟩ := h
  cases l with
  | nil => exact absurd h2 (by simp; omega)
  | cons c l =>
    obtain ⟨q1, q2, q3⟩ := mh_er h1 h2 h3 (c := c) (List.mem_cons_self)
    exact ⟨c, n - 1, h1 c List.mem_cons_self, q1, by omega, q3⟩
theorem mh_pay_ins {cs ds : List Nat} {c s n : Nat} (hc : c ∈ ds) (h1 : ∀ x, x ∈ cs → x ∈ ds) (h2 : ∀ x, x ∈ ds → x = c ∨ x ∈ cs) : mh_pay ds s n ↔ mh_pay cs s n ∨ (c ≤ s ∧ ∃ m, n = m + 1 ∧ mh_pay ds (s - c) m) := by
  constructor
  · intro h
    obtain ⟨l, q1, q2, q3⟩ := h
    by_cases hl : c ∈ l
    · obtain ⟨r1, r2, r3⟩ := mh_er q1 q2 q3 hl
      exact Or.inr ⟨r1, n - 1, by omega, r3⟩
    · exact Or.inl ⟨l, fun x hx => (h2 x (q1 x hx)).resolve_left (fun q => hl (q ▸ hx)), q2, q3⟩
  · intro h
    rcases h with h | ⟨h3, m, h4, h5⟩
    · exact mh_pay_sub h h1
    · have := mh_pay_c hc h5
      rw [Nat.sub_add_cancel h3] at this
      rw [h4]
      exact this
theorem mh_py_ins {cs ds : List Nat} {c s : Nat} (hc : c ∈ ds) (h1 : ∀ x, x ∈ cs → x ∈ ds) (h2 : ∀ x, x ∈ ds → x = c ∨ x ∈ cs) : mh_py ds s ↔ mh_py cs s ∨ (c ≤ s ∧ mh_py ds (s - c)) := by
  constructor
  · intro ⟨n, h⟩
    rcases (mh_pay_ins hc h1 h2).mp h with h | ⟨h3, m, h4, h5⟩
    · exact Or.inl ⟨n, h⟩
    · exact Or.inr ⟨h3, m, h5⟩
  · intro h
    rcases h with ⟨n, h⟩ | ⟨h3, m, h5⟩
    · exact ⟨n, mh_pay_sub h h1⟩
    · exact ⟨m + 1, (mh_pay_ins hc h1 h2).mpr (Or.inr ⟨h3, m, rfl, h5⟩)⟩
theorem mh_py0 (cs : List Nat) : mh_py cs 0 := ⟨0, mh_pay0 cs⟩
theorem mh_py_add {cs : List Nat} {s t : Nat} (h : mh_py cs s) (k : mh_py cs t) : mh_py cs (s + t) := by
  obtain ⟨n, h⟩ := h
  obtain ⟨m, k⟩ := k
  exact ⟨n + m, mh_pay_add h k⟩
theorem mh_py_c {cs : List Nat} {c : Nat} (hc : c ∈ cs) : mh_py cs c := by
  have := mh_pay_c hc (mh_pay0 cs)
  rw [Nat.zero_add] at this
  exact ⟨1, this⟩
theorem mh_py_mul {cs : List Nat} {s : Nat} (h : mh_py cs s) : ∀ k, mh_py cs (k * s) := by
  intro k
  induction k with
  | zero => rw [Nat.zero_mul]; exact mh_py0 cs
  | succ k ih => rw [Nat.succ_mul]; exact mh_py_add ih h
theorem mh_py_nil {s : Nat} : mh_py [] s ↔ s = 0 := by
  constructor
  · intro ⟨n, l, h1, h2, h3⟩
    cases l with
    | nil => exact h2.symm
    | cons c l => exact absurd (h1 c List.mem_cons_self) List.not_mem_nil
  · intro h
    rw [h]
    exact mh_py0 []
/-- coins of 1 or more: no more of them than the sum -/
theorem mh_pay_le {cs : List Nat} (hp : ∀ x, x ∈ cs → 1 ≤ x) {s n : Nat} (h : mh_pay cs s n) : n ≤ s := by
  obtain ⟨l, h1, h2, h3⟩ := h
  subst h2 h3
  induction l with
  | nil => exact Nat.le_refl _
  | cons c l ih =>
    have a1 := hp c (h1 c List.mem_cons_self)
    have a2 := ih (fun x hx => h1 x (List.mem_cons_of_mem c hx))
    rw [List.sum_cons, List.length_cons]
    omega
/-! the fewest -/
noncomputable def mh_mn (cs : List Nat) (s : Nat) : Option Nat := @dite _ (∃ n, mh_pay cs s n) (Classical.propDecidable _) (fun h => some (Classical.choose (pk_least _ h))) (fun _ => none)
theorem mh_mn_some {cs : List Nat} {s n : Nat} : mh_mn cs s = some n ↔ mh_pay cs s n ∧ ∀ m, mh_pay cs s m → n ≤ m := by
  unfold mh_mn
  by_cases h : ∃ n, mh_pay cs s n
  · rw [dif_pos h]
    have hs := Classical.choose_spec (pk_least _ h)
    constructor
    · intro q
      have q := Option.some.inj q
      rw [q] at hs
      exact ⟨hs.1, fun m hm => Nat.le_of_not_lt (fun r => hs.2 m r hm)⟩
    · intro ⟨q1, q2⟩
      have a1 := q2 _ hs.1
      have a2 : ¬ n < Classical.choose (pk_least _ h) := fun r => hs.2 n r q1
      congr 1
      omega
  · rw [dif_neg h]
    constructor
    · intro q; cases q
    · intro ⟨q1, _⟩
      exact absurd ⟨n, q1⟩ h
theorem mh_mn_none {cs : List Nat} {s : Nat} : mh_mn cs s = none ↔ ¬ mh_py cs s := by
  unfold mh_mn
  by_cases h : ∃ n, mh_pay cs s n
  · rw [dif_pos h]
    constructor
    · intro q; cases q
    · intro q; exact absurd h q
  · rw [dif_neg h]
    exact ⟨fun _ => h, fun _ => rfl⟩
theorem mh_mn_ex {cs : List Nat} {s : Nat} (h : mh_py cs s) : ∃ n, mh_mn cs s = some n := by
  cases hm : mh_mn cs s with
  | none => exact absurd h (mh_mn_none.mp hm)
  | some n => exact ⟨n, rfl⟩
theorem mh_mn_le {cs : List Nat} {s n m : Nat} (h : mh_mn cs s = some n) (k : mh_pay cs s m) : n ≤ m := (mh_mn_some.mp h).2 m k
theorem mh_mn_pay {cs : List Nat} {s n : Nat} (h : mh_mn cs s = some n) : mh_pay cs s n := (mh_mn_some.mp h).1
theorem mh_mn_py {cs : List Nat} {s n : Nat} (h : mh_mn cs s = some n) : mh_py cs s := ⟨n, mh_mn_pay h⟩
theorem mh_mn_b {cs : List Nat} (hp : ∀ x, x ∈ cs → 1 ≤ x) {s n : Nat} (h : mh_mn cs s = some n) : n ≤ s := mh_pay_le hp (mh_mn_pay h)
/-- as the reference has it -/
def mh_nv (o : Option Nat) : Nat := o.getD 536870912
theorem mh_nv_ins {cs ds : List Nat} {c s : Nat} (hc : c ∈ ds) (h1 : ∀ x, x ∈ cs → x ∈ ds) (h2 : ∀ x, x ∈ ds → x = c ∨ x ∈ cs) (hp : ∀ x, x ∈ ds → 1 ≤ x) (hs : s < 536870912) :
    mh_nv (mh_mn ds s) = if c ≤ s ∧ mh_nv (mh_mn ds (s - c)) + 1 < mh_nv (mh_mn cs s) then mh_nv (mh_mn ds (s - c)) + 1 else mh_nv (mh_mn cs s) := by
  have hb : ∀ t n, t ≤ s → mh_mn ds t = some n → n ≤ s := fun t n ht q => Nat.le_trans (mh_mn_b hp q) ht
  have hb2 : ∀ n, mh_mn cs s = some n → n ≤ s := fun n q => mh_mn_b (fun x hx => hp x (h1 x hx)) q
  have up : ∀ n, mh_mn cs s = some n → ∃ k, mh_mn ds s = some k ∧ k ≤ n := fun n q => by
    have a := mh_pay_sub (mh_mn_pay q) h1
    obtain ⟨k, hk⟩ := mh_mn_ex ⟨n, a⟩
    exact ⟨k, hk, mh_mn_le hk a⟩
  by_cases hcs : c ≤ s
  · have up2 : ∀ n, mh_mn ds (s - c) = some n → ∃ k, mh_mn ds s = some k ∧ k ≤ n + 1 := fun n q => by
      have a := mh_pay_c hc (mh_mn_pay q)
      rw [Nat.sub_add_cancel hcs] at a
      obtain ⟨k, hk⟩ := mh_mn_ex ⟨n + 1, a⟩
      exact ⟨k, hk, mh_mn_le hk a⟩
    cases hd : mh_mn ds s with
    | none =>
      cases ha : mh_mn cs s with
      | some n => obtain ⟨k, hk, _⟩ := up n ha; rw [hd] at hk; cases hk
      | none =>
        cases hb : mh_mn ds (s - c) with
        | some n => obtain ⟨k, hk, _⟩ := up2 n hb; rw [hd] at hk; cases hk
        | none => rw [if_neg (fun q => by omega)]
    | some k =>
      have hk := hb s k (Nat.le_refl _) hd
      have lo : ∀ n, mh_mn cs s = some n → k ≤ n := fun n q => by
        obtain ⟨k', q1, q2⟩ := up n q
        rw [hd] at q1
        cases q1
        exact q2
      have lo2 : ∀ n, mh_mn ds (s - c) = some n → k ≤ n + 1 := fun n q => by
        obtain ⟨k', q1, q2⟩ := up2 n q
        rw [hd] at q1
        cases q1
        exact q2
      rcases (mh_pay_ins hc h1 h2).mp (mh_mn_pay hd) with h | ⟨_, m, h4, h5⟩
      · obtain ⟨n, hn⟩ := mh_mn_ex ⟨k, h⟩
        have := mh_mn_le hn h
        have := lo n hn
        have e : n = k := by omega
        subst e
        rw [hn]
        cases hb : mh_mn ds (s - c) with
        | none =>
          rw [if_neg (by simp only [mh_nv, Option.getD]; omega)]
        | some m =>
          have := lo2 m hb
          rw [if_neg (by simp only [mh_nv, Option.getD]; omega)]
      · obtain ⟨n, hn⟩ := mh_mn_ex ⟨m, h5⟩
        have := mh_mn_le hn h5
        have := lo2 n hn
        have e : k = n + 1 := by omega
        subst e
        rw [hn]
        cases ha : mh_mn cs s with
        | none =>
          rw [if_pos (by simp only [mh_nv, Option.getD]; omega)]
          rfl
        | some m =>
          have := lo m ha
          by_cases hm : n + 1 < m
          · rw [if_pos (by simp only [mh_nv, Option.getD]; omega)]
            rfl
          · rw [if_neg (by simp only [mh_nv, Option.getD]; omega)]
            simp only [mh_nv, Option.getD]
            omega
  · rw [if_neg (fun q => hcs q.1)]
    congr 1
    cases ha : mh_mn cs s with
    | none =>
      refine mh_mn_none.mpr (fun ⟨n, q⟩ => ?_)
      rcases (mh_pay_ins hc h1 h2).mp q with q | q
      · exact mh_mn_none.mp ha ⟨n, q⟩
      · exact hcs q.1
    | some n =>
      refine mh_mn_some.mpr ⟨mh_pay_sub (mh_mn_pay ha) h1, fun m q => ?_⟩
      rcases (mh_pay_ins hc h1 h2).mp q with q | q
      · exact mh_mn_le ha q
      · exact absurd q.1 hcs
/-! of m + 1 numbers below m two are alike; some of m coins, side by side, make a multiple of m -/
theorem mh_pig : ∀ (m : Nat) (f : Nat → Nat), (∀ i, i ≤ m → f i < m) → ∃ i j, i < j ∧ j ≤ m ∧ f i = f j := by
  intro m
  induction m with
  | zero => intro f h; exact absurd (h 0 (Nat.le_refl 0)) (by omega)
  | succ m ih =>
    intro f h
    by_cases hv : ∃ i, i ≤ m ∧ f i = f (m + 1)
    · obtain ⟨i, h1, h2⟩ := hv
      exact ⟨i, m + 1, by omega, Nat.le_refl _, h2⟩
    · have hn : ∀ i, i ≤ m → f i ≠ f (m + 1) := fun i hi q => hv ⟨i, hi, q⟩
      obtain ⟨i, j, h1, h2, h3⟩ := ih (fun i => if f i = m then f (m + 1) else f i) (fun i hi => by
        have a := h i (by omega)
        have b := h (m + 1) (Nat.le_refl _)
        have c := hn i hi
        show (if f i = m then f (m + 1) else f i) < m
        by_cases hm : f i = m
        · rw [if_pos hm]; omega
        · rw [if_neg hm]; omega)
      refine ⟨i, j, h1, by omega, ?_⟩
      have h3 : (if f i = m then f (m + 1) else f i) = (if f j = m then f (m + 1) else f j) := h3
      have ni := hn i (by omega)
      have nj := hn j (by omega)
      by_cases a : f i = m
      · by_cases b : f j = m
        · omega
        · rw [if_pos a, if_neg b] at h3; omega
      · by_cases b : f j = m
        · rw [if_neg a, if_pos b] at h3; omega
        · rw [if_neg a, if_neg b] at h3; omega
theorem mh_blk {m : Nat} (hm : 0 < m) {l : List Nat} (hl : m ≤ l.length) : ∃ a b c, l = a ++ (b ++ c) ∧ b ≠ [] ∧ b.length ≤ m ∧ m ∣ b.sum := by
  obtain ⟨i, j, h1, h2, h3⟩ := mh_pig m (fun i => (l.take i).sum % m) (fun i _ => Nat.mod_lt _ hm)
  have h3 : (l.take i).sum % m = (l.take j).sum % m := h3
  have e : l.take j = l.take i ++ (l.drop i).take (j - i) := by
    rw [show j = i + (j - i) by omega, List.take_add]
    congr 2
    omega
  have hb : ((l.drop i).take (j - i)).length = j - i := by
    rw [List.length_take, List.length_drop]
    omega
  refine ⟨l.take i, (l.drop i).take (j - i), (l.drop i).drop (j - i), ?_, ?_, by omega, ?_⟩
  · rw [List.take_append_drop, List.take_append_drop]
  · intro q
    rw [q] at hb
    simp at hb
    omega
  · have := congrArg List.sum e
    rw [List.sum_append_nat] at this
    rw [this] at h3
    have q := Nat.sub_mod_eq_zero_of_mod_eq h3.symm
    rw [Nat.add_sub_cancel_left] at q
    exact Nat.dvd_of_mod_eq_zero q
