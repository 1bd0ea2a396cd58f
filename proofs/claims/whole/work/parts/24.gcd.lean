theorem mh_gcd_step (h : mh_H) {a b s n : Nat} (ha : a < 2 ^ 31) (hb : 0 < b) (hb2 : b < 2 ^ 31) (hs : s < 64) : f_X11_greatestCommon_b7 (n + 1) (nI a) (nI b) (nI s) h = f_X11_greatestCommon_b7 n (nI b) (nI (a % b)) (nI (s + 1)) h := by
  have h1 : ¬ (64 : Int32) ≤ nI s := fun q => absurd ((nI_leI (a := 64) (b := s) (by omega) (by omega)).mp q) (by omega)
  have h2 : ¬ nI b = 0 := nI_ne0 hb hb2
  rw [f_X11_greatestCommon_b7, if_neg h1, if_neg h2]
  unfold mh_nz
  rw [if_neg h2]
  show f_X11_greatestCommon_b7 n (nI b) (nI a - nI a / nI b * nI b) (nI s + Int32.ofInt 1) h = _
  rw [mh_inc, pk_rem ha hb hb2]
theorem mh_gcd_end (h : mh_H) {a s n : Nat} (hs : s < 64) : f_X11_greatestCommon_b7 (n + 1) (nI a) (nI 0) (nI s) h = some (nI a, h) := by
  have h1 : ¬ (64 : Int32) ≤ nI s := fun q => absurd ((nI_leI (a := 64) (b := s) (by omega) (by omega)).mp q) (by omega)
  rw [f_X11_greatestCommon_b7, if_neg h1, if_pos nI_0]
  rfl
theorem mh_half {a b : Nat} (hb : 0 < b) (hr : 0 < a % b) : 2 * (b % (a % b)) < b := by
  have h1 : a % b < b := Nat.mod_lt _ hb
  have h2 : b % (a % b) < a % b := Nat.mod_lt _ hr
  have h3 : b % (a % b) + (a % b) * (b / (a % b)) = b := Nat.mod_add_div _ _
  have h4 : 1 ≤ b / (a % b) := (Nat.one_le_div_iff hr).mpr (by omega)
  have h5 : (a % b) * 1 ≤ (a % b) * (b / (a % b)) := Nat.mul_le_mul_left _ h4
  omega
theorem mh_lp_gcd (h : mh_H) : ∀ (k a b s n : Nat), a < 2 ^ 31 → b < 2 ^ k → k ≤ 30 → s + 2 * k + 1 ≤ 64 → 2 * k < n → f_X11_greatestCommon_b7 n (nI a) (nI b) (nI s) h = some (nI (Nat.gcd a b), h) := by
  intro k
  induction k with
  | zero =>
    intro a b s n ha hb hk hs hn
    obtain ⟨n, rfl⟩ : ∃ k, n = k + 1 := ⟨n - 1, by omega⟩
    have : b = 0 := by simpa using hb
    subst this
    rw [mh_gcd_end h (by omega), Nat.gcd_zero_right]
  | succ k ih =>
    intro a b s n ha hb hk hs hn
    have hb2 : b < 2 ^ 31 := Nat.lt_of_lt_of_le hb (Nat.pow_le_pow_right (by omega) (by omega))
    obtain ⟨n, rfl⟩ : ∃ k, n = k + 1 := ⟨n - 1, by omega⟩
    by_cases h0 : b = 0
    · subst h0
      rw [mh_gcd_end h (by omega), Nat.gcd_zero_right]
    · rw [mh_gcd_step h ha (by omega) hb2 (by omega)]
      have e1 : Nat.gcd a b = Nat.gcd b (a % b) := by rw [Nat.gcd_comm a b, Nat.gcd_rec b a, Nat.gcd_comm]
      obtain ⟨n, rfl⟩ : ∃ k, n = k + 1 := ⟨n - 1, by omega⟩
      have hlt : a % b < b := Nat.mod_lt _ (by omega)
      by_cases hr : a % b = 0
      · rw [hr, mh_gcd_end h (by omega), e1, hr, Nat.gcd_zero_right]
      · rw [mh_gcd_step h hb2 (by omega) (by omega) (by omega)]
        have hh := mh_half (a := a) (b := b) (by omega) (by omega)
        rw [ih (a % b) (b % (a % b)) (s + 1 + 1) n (by omega) (by rw [Nat.pow_succ] at hb; omega) (by omega) (by omega) (by omega), e1]
        rw [show Nat.gcd b (a % b) = Nat.gcd (a % b) (b % (a % b)) from by rw [Nat.gcd_comm b, Nat.gcd_rec (a % b) b, Nat.gcd_comm]]
theorem mh_fx11_gcd (h : mh_H) {a b : Nat} (ha : a < 2 ^ 31) (hb : b < 2 ^ 30) : f_X11_greatestCommon_e (nI a) (nI b) h = some (nI (Nat.gcd a b), h) := by
  have e := mh_lp_gcd h 30 a b 0 mh_fu ha hb (by omega) (by omega) (mh_fuel 60 (by omega))
  rw [nI_0] at e
  exact e
