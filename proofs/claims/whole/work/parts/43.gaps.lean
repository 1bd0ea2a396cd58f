/-! sums over rests, and counts -/
def mh_sumr (g : Nat → Nat) : Nat → Nat
  | 0 => 0
  | n + 1 => mh_sumr g n + g n
theorem mh_sumr_le {g : Nat → Nat} {B : Nat} (h : ∀ r, g r ≤ B) : ∀ n, mh_sumr g n ≤ n * B := by
  intro n
  induction n with
  | zero => exact Nat.zero_le _
  | succ n ih => rw [mh_sumr, Nat.succ_mul]; have := h n; omega
theorem mh_sumr_leb {g : Nat → Nat} {B : Nat} : ∀ n, (∀ r, r < n → g r ≤ B) → mh_sumr g n ≤ n * B := by
  intro n
  induction n with
  | zero => intro _; exact Nat.zero_le _
  | succ n ih => intro h; rw [mh_sumr, Nat.succ_mul]; have := h n (Nat.lt_succ_self n); have := ih (fun r hr => h r (by omega)); omega
theorem mh_sumr_congr {g g' : Nat → Nat} : ∀ n, (∀ r, r < n → g r = g' r) → mh_sumr g n = mh_sumr g' n := by
  intro n
  induction n with
  | zero => intro _; rfl
  | succ n ih => intro h; rw [mh_sumr, mh_sumr, ih (fun r hr => h r (by omega)), h n (Nat.lt_succ_self n)]
theorem mh_sumr_one {g g' : Nat → Nat} {d : Nat} : ∀ (n r0 : Nat), r0 < n → (∀ r, r < n → r ≠ r0 → g' r = g r) → g' r0 = g r0 + d → mh_sumr g' n = mh_sumr g n + d := by
  intro n
  induction n with
  | zero => intro r0 h; omega
  | succ n ih =>
    intro r0 h1 h2 h3
    rw [mh_sumr, mh_sumr]
    by_cases hr : r0 = n
    · rw [mh_sumr_congr n (fun r hr2 => h2 r (by omega) (by omega)), ← hr, h3]
      omega
    · rw [ih r0 (by omega) (fun r q1 q2 => h2 r (by omega) q2) h3, h2 n (by omega) (fun q => hr q.symm)]
      omega
def mh_cnt (q : Nat → Bool) : Nat → Nat
  | 0 => 0
  | n + 1 => mh_cnt q n + (if q n then 1 else 0)
theorem mh_cnt_le (q : Nat → Bool) : ∀ n, mh_cnt q n ≤ n := by
  intro n
  induction n with
  | zero => exact Nat.le_refl _
  | succ n ih => rw [mh_cnt]; split <;> omega
theorem mh_cnt_mono (q : Nat → Bool) {a b : Nat} (h : a ≤ b) : mh_cnt q a ≤ mh_cnt q b := by
  obtain ⟨k, rfl⟩ : ∃ k, b = a + k := ⟨b - a, by omega⟩
  clear h
  induction k with
  | zero => exact Nat.le_refl _
  | succ k ih => rw [← Nat.add_assoc, mh_cnt]; omega
theorem mh_cnt_congr {q q' : Nat → Bool} : ∀ n, (∀ r, r < n → q r = q' r) → mh_cnt q n = mh_cnt q' n := by
  intro n
  induction n with
  | zero => intro _; rfl
  | succ n ih => intro h; rw [mh_cnt, mh_cnt, ih (fun r hr => h r (by omega)), h n (Nat.lt_succ_self n)]
/-- the gaps up to x of one rest -/
def mh_gt (m : Nat) (w : Nat → Nat) (x r : Nat) : Nat := if r ≤ x then min ((x - r) / m + 1) (w r / m) else 0
def mh_gp (m : Nat) (w : Nat → Nat) (s : Nat) : Bool := decide (s < w (s % m))
theorem mh_mnstep (a q : Nat) : min (a + 1) q = min a q + (if a < q then 1 else 0) := by
  by_cases h : a < q
  · rw [if_pos h]; omega
  · rw [if_neg h]; omega
theorem mh_gt_sum {m : Nat} {w : Nat → Nat} (hm : 0 < m) (hw : ∀ r, r < m → w r = mh_INF ∨ w r % m = r) : ∀ x, x + m < mh_INF → mh_sumr (mh_gt m w x) m = mh_cnt (mh_gp m w) (x + 1) := by
  have st : ∀ x, x + m < mh_INF → (x / m < w (x % m) / m ↔ x < w (x % m)) := fun x => by
    intro hx
    have hr := Nat.mod_lt x hm
    have e := Nat.div_add_mod x m
    rcases hw _ hr with h | h
    · rw [h]
      constructor
      · intro _; omega
      · intro _
        have q := Nat.div_le_div_right (c := m) (show x + m ≤ mh_INF by omega)
        rw [Nat.add_div_right x hm] at q
        omega
    · have e2 := Nat.div_add_mod (w (x % m)) m
      rw [h] at e2
      constructor
      · intro q
        have := Nat.mul_le_mul_left m (Nat.succ_le_of_lt q)
        rw [Nat.mul_succ] at this
        omega
      · intro q
        refine Nat.lt_of_not_le (fun c => ?_)
        have := Nat.mul_le_mul_left m c
        omega
  have gb : ∀ x, x + m < mh_INF → (if mh_gp m w x = true then 1 else 0) = (if x / m < w (x % m) / m then 1 else 0) := by
    intro x hx
    by_cases hc : x < w (x % m)
    · rw [if_pos ((st x hx).mpr hc), if_pos (show mh_gp m w x = true from decide_eq_true hc)]
    · rw [if_neg (fun q => hc ((st x hx).mp q)), if_neg (by unfold mh_gp; rw [decide_eq_false hc]; exact Bool.false_ne_true)]
  intro x
  induction x with
  | zero =>
    intro hx
    have e : mh_sumr (mh_gt m w 0) m = mh_sumr (fun _ => 0) m + (if mh_gp m w 0 then 1 else 0) := by
      refine mh_sumr_one m 0 hm (fun r h1 h2 => ?_) ?_
      · unfold mh_gt
        rw [if_neg (by omega)]
      · rw [gb 0 hx]
        unfold mh_gt
        rw [if_pos (Nat.le_refl _), Nat.zero_mod, Nat.sub_self, Nat.zero_div, mh_mnstep, Nat.zero_min]
    have z : ∀ n, mh_sumr (fun _ => 0) n = 0 := fun n => by
      induction n with
      | zero => rfl
      | succ n ih => rw [mh_sumr, ih]
    rw [e, z]
    rfl
  | succ x ih =>
    intro hx
    have hr := Nat.mod_lt (x + 1) hm
    have ed := Nat.div_add_mod (x + 1) m
    have e : mh_sumr (mh_gt m w (x + 1)) m = mh_sumr (mh_gt m w x) m + (if mh_gp m w (x + 1) then 1 else 0) := by
      refine mh_sumr_one m ((x + 1) % m) hr (fun r h1 h2 => ?_) ?_
      · unfold mh_gt
        by_cases hrx : r ≤ x
        · rw [if_pos hrx, if_pos (by omega)]
          have : (x + 1 - r) / m = (x - r) / m := by
            rw [show x + 1 - r = (x - r) + 1 by omega, Nat.succ_div]
            rw [if_neg (fun hd => ?_)]
            · rfl
            · rw [show x - r + 1 = x + 1 - r by omega] at hd
              have := (Nat.mod_eq_of_lt h1)
              have h3 : (x + 1) % m = r % m := by
                obtain ⟨c, hc⟩ := hd
                rw [show x + 1 = r + m * c by omega, Nat.add_mul_mod_self_left]
              omega
          rw [this]
        · by_cases hr2 : r = x + 1
          · exfalso
            apply h2
            rw [hr2] at h1 ⊢
            rw [Nat.mod_eq_of_lt h1]
          · rw [if_neg hrx, if_neg (by omega)]
      · rw [gb (x + 1) hx]
        unfold mh_gt
        have hle := Nat.mod_le (x + 1) m
        rw [if_pos hle]
        have e1 : (x + 1 - (x + 1) % m) / m = (x + 1) / m := by
          rw [show x + 1 - (x + 1) % m = m * ((x + 1) / m) by omega, Nat.mul_div_cancel_left _ hm]
        rw [e1, mh_mnstep]
        congr 1
        by_cases hz : (x + 1) / m = 0
        · rw [hz, Nat.mul_zero] at ed
          rw [if_neg (by omega), hz, Nat.zero_min]
        · have hge : m ≤ x + 1 := by
            have := Nat.mul_le_mul_left m (Nat.one_le_iff_ne_zero.mpr hz)
            omega
          rw [if_pos (by omega)]
          have e2 : (x - (x + 1) % m) / m + 1 = (x + 1) / m := by
            have h4 : x - (x + 1) % m = m * ((x + 1) / m - 1) + (m - 1) := by
              have := Nat.mul_sub m ((x + 1) / m) 1
              have := Nat.mul_le_mul_left m (Nat.one_le_iff_ne_zero.mpr hz)
              omega
            rw [h4, Nat.mul_add_div hm, Nat.div_eq_of_lt (show m - 1 < m by omega)]
            generalize (x + 1) / m = y at hz
            omega
          rw [e2]
    rw [e, ih (by omega)]
    rfl
