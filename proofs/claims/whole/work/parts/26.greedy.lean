/-- the greatest first: what is left and how many, over the i least coins from the greatest of them down -/
def mh_gf (cs : List Nat) : Nat → Nat → Nat → Nat × Nat
  | 0, s, k => (s, k)
  | j + 1, s, k => mh_gf cs j (s % cs.getD j 0) (k + s / cs.getD j 0)
def mh_gy (cs : List Nat) (s : Nat) : Int64 := if (mh_gf cs cs.length s 0).1 = 0 then lN (mh_gf cs cs.length s 0).2 else -1
theorem mh_cmp0 (x y : Int64) : lg_cmp x y = 0 ↔ x = y := by
  unfold lg_cmp
  by_cases h1 : x > y
  · rw [if_pos h1]
    constructor
    · intro q
      exact absurd q (by decide)
    · intro q
      rw [q] at h1
      exact absurd h1 (Int64.lt_irrefl)
  · rw [if_neg h1]
    by_cases h2 : x = y
    · rw [if_pos h2]
      exact ⟨fun _ => h2, fun _ => rfl⟩
    · rw [if_neg h2]
      constructor
      · intro q
        exact absurd q (by decide)
      · intro q
        exact absurd q h2
theorem mh_lN_inj {a b : Nat} (ha : a < 2 ^ 63) (hb : b < 2 ^ 63) : lN a = lN b ↔ a = b := by
  constructor
  · intro h
    have h1 : (lN a).toInt = (lN b).toInt := by rw [h]
    unfold lN at h1
    rw [Int64.toInt_ofNat_of_lt (by omega), Int64.toInt_ofNat_of_lt (by omega)] at h1
    omega
  · intro h
    rw [h]
theorem mh_gf_le (cs : List Nat) (hp : ∀ i, i < cs.length → 1 ≤ cs.getD i 0) : ∀ (i s k : Nat), i ≤ cs.length → (mh_gf cs i s k).1 ≤ s ∧ (mh_gf cs i s k).2 + (mh_gf cs i s k).1 ≤ k + s := by
  intro i
  induction i with
  | zero =>
    intro s k _
    exact ⟨Nat.le_refl _, Nat.le_refl _⟩
  | succ j ih =>
    intro s k hj
    have h1 := hp j (by omega)
    obtain ⟨q1, q2⟩ := ih (s % cs.getD j 0) (k + s / cs.getD j 0) (by omega)
    have h2 : s % cs.getD j 0 ≤ s := Nat.mod_le _ _
    have h3 : s % cs.getD j 0 + cs.getD j 0 * (s / cs.getD j 0) = s := Nat.mod_add_div _ _
    have h4 : 1 * (s / cs.getD j 0) ≤ cs.getD j 0 * (s / cs.getD j 0) := Nat.mul_le_mul_right _ h1
    unfold mh_gf
    exact ⟨by omega, by omega⟩
theorem mh_lp_gf {h : mh_H} {a v : Nat} {f : Nat → Int32} {cs : List Nat} (hc : mh_Co h a v f cs) (hp : ∀ i, i < cs.length → 1 ≤ cs.getD i 0) (hb : ∀ i, cs.getD i 0 ≤ 300) : ∀ (i n s k : Nat), i ≤ cs.length → i < n → k + s < 2 ^ 62 →
    f_X1_greatestFirst_b13 n a (lN s) (lN k) (nI i + Int32.ofInt (-1)) h = f_X1_greatestFirst_b54 (lN (mh_gf cs i s k).1) (lN (mh_gf cs i s k).2) h := by
  have hl := hc.2.2.1
  intro i
  induction i with
  | zero =>
    intro n s k h1 h2 h3
    obtain ⟨n, rfl⟩ : ∃ k, n = k + 1 := ⟨n - 1, by omega⟩
    rw [f_X1_greatestFirst_b13, if_pos (by decide)]
    rfl
  | succ j ih =>
    intro n s k h1 h2 h3
    obtain ⟨n, rfl⟩ : ∃ k, n = k + 1 := ⟨n - 1, by omega⟩
    have g1 := hp j (by omega)
    have g2 := hb j
    have z0 : ¬ lN (cs.getD j 0) = 0 := fun q => absurd ((mh_lN_inj (b := 0) (by omega) (by omega)).mp q) (by omega)
    have h4 : 1 * (s / cs.getD j 0) ≤ cs.getD j 0 * (s / cs.getD j 0) := Nat.mul_le_mul_right _ g1
    have h5 : s % cs.getD j 0 + cs.getD j 0 * (s / cs.getD j 0) = s := Nat.mod_add_div _ _
    rw [f_X1_greatestFirst_b13, mh_dec, if_neg (nI_pos (by omega)), mh_gR_eq hc.1 rfl, Option.bind_some, mh_aI_eq hc.2.1 (by omega) (by omega), Option.bind_some, hc.2.2.2 j (by omega), if_neg (nI_nle (by omega) (by omega)), nI_l (by omega)]
    unfold mh_nz
    rw [if_neg z0]
    show (if lN (cs.getD j 0) = 0 then none else f_X1_greatestFirst_b48 (f_X1_greatestFirst_b13 n) a (lN s - lN s / lN (cs.getD j 0) * lN (cs.getD j 0)) (lN k + lN s / lN (cs.getD j 0)) (nI j) h) = _
    rw [if_neg z0, pk_lRem (by omega) (by omega) (by omega), pk_lDiv (by omega) (by omega) (by omega), lN_add]
    show f_X1_greatestFirst_b13 n a _ _ (nI j + Int32.ofInt (-1)) h = _
    rw [ih n _ _ (by omega) (by omega) (by omega)]
    rfl
theorem mh_fx1_greatestFirst {h : mh_H} {a v : Nat} {f : Nat → Int32} {cs : List Nat} (hc : mh_Co h a v f cs) (hp : ∀ i, i < cs.length → 1 ≤ cs.getD i 0) (hb : ∀ i, cs.getD i 0 ≤ 300) {s : Nat} (hs : s < 2 ^ 62) : f_X1_greatestFirst_e a (lN s) h = some (mh_gy cs s, h) := by
  have hl := hc.2.2.1
  have hle := mh_gf_le cs hp cs.length s 0 (Nat.le_refl _)
  unfold f_X1_greatestFirst_e
  show (mh_gI h a 1 1).bind _ = _
  rw [mh_gI_eq hc.1 rfl, Option.bind_some]
  show f_X1_greatestFirst_b13 mh_fu a (lN s) (lN 0) (nI cs.length - 1) h = _
  rw [show nI cs.length - 1 = nI cs.length + Int32.ofInt (-1) from by rw [Int32.sub_eq_add_neg]; rfl, mh_lp_gf hc hp hb cs.length mh_fu s 0 (Nat.le_refl _) (mh_fuel _ (by omega)) (by omega)]
  unfold f_X1_greatestFirst_b54 mh_gy
  by_cases h0 : (mh_gf cs cs.length s 0).1 = 0
  · rw [if_pos ((mh_cmp0 _ _).mpr (by rw [h0]; rfl)), if_pos h0]
    rfl
  · have hn : ¬ lg_cmp (lN (mh_gf cs cs.length s 0).1) (0 : Int64) = 0 := fun q => h0 ((mh_lN_inj (b := 0) (by omega) (by omega)).mp ((mh_cmp0 _ _).mp q))
    rw [if_neg hn, if_neg h0]
    rfl
