/-! the clock's weights: 2147483647 stands for a rest that isn't reached -/
def mh_INF : Nat := 2147483647
def mh_un (w : Nat → Nat) (k x : Nat) : Nat → Nat := fun j => if j = k then x else w j
theorem mh_un_s (w : Nat → Nat) (k x : Nat) : mh_un w k x k = x := if_pos rfl
theorem mh_un_n {w : Nat → Nat} {k x j : Nat} (h : j ≠ k) : mh_un w k x j = w j := if_neg h
def mh_rlx (w : Nat → Nat) (here next wt : Nat) : Nat → Nat := if w here ≠ mh_INF ∧ w here + wt < w next then mh_un w next (w here + wt) else w
theorem mh_rlx_le (w : Nat → Nat) (here next wt r : Nat) : mh_rlx w here next wt r ≤ w r := by
  unfold mh_rlx
  by_cases h : w here ≠ mh_INF ∧ w here + wt < w next
  · rw [if_pos h]
    by_cases hr : r = next
    · rw [hr, mh_un_s]; omega
    · rw [mh_un_n hr]; omega
  · rw [if_neg h]; omega
theorem mh_rlx_next (w : Nat → Nat) (here next wt : Nat) (h0 : w here ≠ mh_INF) : mh_rlx w here next wt next ≤ w here + wt := by
  unfold mh_rlx
  by_cases h : w here ≠ mh_INF ∧ w here + wt < w next
  · rw [if_pos h, mh_un_s]; omega
  · rw [if_neg h]
    have : ¬ w here + wt < w next := fun q => h ⟨h0, q⟩
    omega
/-- sound: each weight comes from an old one, by at most T steps -/
def mh_So (m st wt : Nat) (w0 w : Nat → Nat) (T : Nat) : Prop := ∀ r, r < m → w r ≠ mh_INF → ∃ k r0, k ≤ T ∧ r0 < m ∧ w0 r0 ≠ mh_INF ∧ r = (r0 + k * st) % m ∧ w r = w0 r0 + k * wt
/-- complete on the circle of a, up to the i-th place -/
def mh_Dn (m st wt : Nat) (w0 w : Nat → Nat) (a i : Nat) : Prop := ∀ t k, t ≤ i → k ≤ t → w0 ((a + (t - k) * st) % m) ≠ mh_INF → w ((a + t * st) % m) ≤ w0 ((a + (t - k) * st) % m) + k * wt
theorem mh_So_rx {m st wt : Nat} {w0 w : Nat → Nat} {T here : Nat} (hm : 0 < m) (h : mh_So m st wt w0 w T) (hh : here < m) : mh_So m st wt w0 (mh_rlx w here ((here + st) % m) wt) (T + 1) := by
  intro r hr hw
  unfold mh_rlx at hw ⊢
  by_cases hc : w here ≠ mh_INF ∧ w here + wt < w ((here + st) % m)
  · rw [if_pos hc] at hw ⊢
    by_cases hn : r = (here + st) % m
    · obtain ⟨k, r0, q1, q2, q3, q4, q5⟩ := h here hh hc.1
      refine ⟨k + 1, r0, by omega, q2, q3, ?_, ?_⟩
      · rw [hn, q4, Nat.mod_add_mod, Nat.succ_mul, Nat.add_assoc]
      · rw [hn, mh_un_s, q5, Nat.succ_mul, Nat.add_assoc]
    · rw [mh_un_n hn] at hw ⊢
      obtain ⟨k, r0, q1, q⟩ := h r hr hw
      exact ⟨k, r0, by omega, q⟩
  · rw [if_neg hc] at hw ⊢
    obtain ⟨k, r0, q1, q⟩ := h r hr hw
    exact ⟨k, r0, by omega, q⟩
theorem mh_Dn_mono {m st wt : Nat} {w0 w w' : Nat → Nat} {a i : Nat} (h : mh_Dn m st wt w0 w a i) (hw : ∀ r, w' r ≤ w r) : mh_Dn m st wt w0 w' a i := fun t k h1 h2 h3 => Nat.le_trans (hw _) (h t k h1 h2 h3)
theorem mh_Dn_0 {m st wt : Nat} {w0 w : Nat → Nat} {a : Nat} (hw : ∀ r, w r ≤ w0 r) : mh_Dn m st wt w0 w a 0 := fun t k h1 h2 h3 => by
  have e : t = 0 := by omega
  have e2 : k = 0 := by omega
  subst e e2
  have := hw ((a + 0 * st) % m)
  simp only [Nat.zero_mul, Nat.add_zero, Nat.sub_self] at this ⊢
  exact this
theorem mh_Dn_rx {m st wt : Nat} {w0 w : Nat → Nat} {a i B : Nat} (h : mh_Dn m st wt w0 w a i) (hw : ∀ r, w r ≤ w0 r) (hB : ∀ r, r < m → w0 r ≠ mh_INF → w0 r ≤ B) (hm : 0 < m) (hb : B + i * wt < mh_INF) : mh_Dn m st wt w0 (mh_rlx w ((a + i * st) % m) (((a + i * st) % m + st) % m) wt) a (i + 1) := by
  intro t k h1 h2 h3
  by_cases ht : t ≤ i
  · exact Nat.le_trans (mh_rlx_le _ _ _ _ _) (h t k ht h2 h3)
  · have e : t = i + 1 := by omega
    subst e
    have en : (a + (i + 1) * st) % m = ((a + i * st) % m + st) % m := by
      rw [Nat.mod_add_mod, Nat.succ_mul, Nat.add_assoc]
    cases k with
    | zero =>
      rw [Nat.zero_mul, Nat.add_zero, Nat.sub_zero]
      exact Nat.le_trans (mh_rlx_le _ _ _ _ _) (hw _)
    | succ k =>
      have hk := h i k (Nat.le_refl _) (by omega) (by rw [show i - k = i + 1 - (k + 1) by omega]; exact h3)
      rw [show i - k = i + 1 - (k + 1) by omega] at hk
      have hB1 := hB _ (Nat.mod_lt _ hm) h3
      have hkw := Nat.mul_le_mul_right wt (show k ≤ i by omega)
      rw [en]
      refine Nat.le_trans (mh_rlx_next _ _ _ _ (by omega)) ?_
      rw [Nat.succ_mul]
      omega
/-- the circle of a rest -/
theorem mh_circ {m st r L : Nat} (hm : 0 < m) (hr : r < m) (hL : 0 < L) (hLm : m ∣ L * st) : ∃ t, t < L ∧ r = (r % Nat.gcd (st % m) m + t * st) % m := by
  have hg : Nat.gcd (st % m) m = Nat.gcd m st := by rw [Nat.gcd_rec m st]
  have h1 : mh_res m (fun s => ∃ t, s = t * st) (Nat.gcd m st) := mh_res_gcd hm ⟨0, (Nat.zero_mul _).symm⟩ (fun a b ⟨t, ht⟩ ⟨u, hu⟩ => ⟨t + u, by rw [ht, hu, Nat.add_mul]⟩) m st (mh_res_self ⟨0, (Nat.zero_mul _).symm⟩) ⟨st, ⟨1, (Nat.one_mul _).symm⟩, rfl⟩
  obtain ⟨s, ⟨t, ht⟩, hs⟩ := mh_res_mul ⟨0, (Nat.zero_mul _).symm⟩ (fun a b ⟨t, ht⟩ ⟨u, hu⟩ => ⟨t + u, by rw [ht, hu, Nat.add_mul]⟩) h1 (r / Nat.gcd m st)
  refine ⟨t % L, Nat.mod_lt _ hL, ?_⟩
  have e1 : (t % L * st) % m = (t * st) % m := by
    have a := Nat.div_add_mod t L
    obtain ⟨q, hq⟩ := hLm
    have b : t * st = t % L * st + m * (t / L * q) := by
      calc t * st = (L * (t / L) + t % L) * st := by rw [a]
        _ = t % L * st + t / L * (L * st) := by rw [Nat.add_mul, Nat.mul_comm L (t / L), Nat.mul_assoc, Nat.add_comm]
        _ = t % L * st + m * (t / L * q) := by rw [hq, Nat.mul_left_comm]
    rw [b, Nat.add_mul_mod_self_left]
  rw [Nat.add_mod, e1, ← ht, hs, ← Nat.add_mod, hg]
  have := Nat.mod_add_div r (Nat.gcd m st)
  rw [Nat.mul_comm (r / Nat.gcd m st), this, Nat.mod_eq_of_lt hr]
theorem mh_allowed {m st wt L : Nat} {w0 w : Nat → Nat} (hm : 0 < m) (hL : 0 < L) (hLm : m ∣ L * st) (h : ∀ a, a < Nat.gcd (st % m) m → mh_Dn m st wt w0 w a (2 * L)) {r k : Nat} (hr : r < m) (h0 : w0 r ≠ mh_INF) : w ((r + k * st) % m) ≤ w0 r + k * wt := by
  have hg : 0 < Nat.gcd (st % m) m := Nat.gcd_pos_of_pos_right _ hm
  obtain ⟨t, h1, h2⟩ := mh_circ (st := st) hm hr hL hLm
  have hk := Nat.mod_lt k hL
  have hd := h (r % Nat.gcd (st % m) m) (Nat.mod_lt _ hg) (t + k % L) (k % L) (by omega) (by omega)
  rw [Nat.add_sub_cancel, ← h2] at hd
  have e : (r % Nat.gcd (st % m) m + (t + k % L) * st) % m = (r + k * st) % m := by
    have a := Nat.div_add_mod k L
    obtain ⟨q, hq⟩ := hLm
    have b : r % Nat.gcd (st % m) m + (t + k) * st = r % Nat.gcd (st % m) m + (t + k % L) * st + m * (k / L * q) := by
      have c : k * st = k % L * st + m * (k / L * q) := by
        calc k * st = (L * (k / L) + k % L) * st := by rw [a]
          _ = k % L * st + k / L * (L * st) := by rw [Nat.add_mul, Nat.mul_comm L (k / L), Nat.mul_assoc, Nat.add_comm]
          _ = k % L * st + m * (k / L * q) := by rw [hq, Nat.mul_left_comm]
      rw [Nat.add_mul, Nat.add_mul, c]
      omega
    have c : (r + k * st) % m = (r % Nat.gcd (st % m) m + (t + k) * st) % m := by
      rw [Nat.add_mul, ← Nat.add_assoc, Nat.add_mod (r % Nat.gcd (st % m) m + t * st), ← h2, ← Nat.add_mod_mod]
    rw [c, b, Nat.add_mul_mod_self_left]
  rw [e] at hd
  refine Nat.le_trans (hd h0) ?_
  have := Nat.mul_le_mul_right wt (Nat.mod_le k L)
  omega
