/-! sums of sizes, rest by rest -/
theorem mh_sumr_head (G : Nat → Nat) : ∀ m, mh_sumr G (m + 1) = G 0 + mh_sumr (fun k => G (k + 1)) m := by
  intro m
  induction m with
  | zero => rw [mh_sumr, mh_sumr, mh_sumr]; omega
  | succ m ih => rw [mh_sumr, ih, mh_sumr]; omega
theorem mh_sumr_split (G : Nat → Nat) (i : Nat) : ∀ m, mh_sumr G (i + m) = mh_sumr G i + mh_sumr (fun j => G (i + j)) m := by
  intro m
  induction m with
  | zero => rfl
  | succ m ih => rw [← Nat.add_assoc, mh_sumr, ih, mh_sumr]; omega
theorem mh_sumr_0 : ∀ n, mh_sumr (fun _ => 0) n = 0 := by
  intro n
  induction n with
  | zero => rfl
  | succ n ih => rw [mh_sumr, ih]
def mh_tot (b g : Nat) (F : Nat → Nat) (x : Nat) : Nat := if x ≤ b then mh_sumr (fun k => F (x + k * g)) ((b - x) / g + 1) else 0
theorem mh_tot_s {b g : Nat} {F : Nat → Nat} (hg : 0 < g) {x : Nat} (hx : x ≤ b) : mh_tot b g F x = F x + mh_tot b g F (x + g) := by
  unfold mh_tot
  rw [if_pos hx]
  by_cases hx2 : x + g ≤ b
  · rw [if_pos hx2]
    have e : (b - x) / g = (b - (x + g)) / g + 1 := by
      rw [show b - x = (b - (x + g)) + g by omega, Nat.add_div_right _ hg]
    rw [e, mh_sumr_head, Nat.zero_mul, Nat.add_zero]
    congr 1
    refine mh_sumr_congr _ (fun r _ => ?_)
    show F (x + (r + 1) * g) = F (x + g + r * g)
    rw [Nat.succ_mul]
    congr 1
    omega
  · rw [if_neg hx2, Nat.div_eq_of_lt (by omega), mh_sumr, mh_sumr, Nat.zero_mul]
    rw [Nat.add_zero, Nat.zero_add]
    omega
theorem mh_tot_all {b g : Nat} {F : Nat → Nat} (hg : 0 < g) : ∀ (d x : Nat), x + d = b + 1 → mh_sumr (fun i => mh_tot b g F (x + i)) g = mh_sumr (fun i => F (x + i)) d := by
  intro d
  induction d with
  | zero =>
    intro x hx
    have e0 : ∀ r, r < g → (fun i => mh_tot b g F (x + i)) r = (fun _ => 0) r := fun r _ => if_neg (by omega)
    rw [mh_sumr_congr _ e0, mh_sumr_0]
    rfl
  | succ d ih =>
    intro x hx
    have a := mh_sumr_head (fun i => mh_tot b g F (x + i)) g
    rw [mh_sumr] at a
    have t := mh_tot_s (F := F) hg (show x ≤ b by omega)
    have c := ih (x + 1) (by omega)
    have e : mh_sumr (fun k => mh_tot b g F (x + (k + 1))) g = mh_sumr (fun i => mh_tot b g F (x + 1 + i)) g := mh_sumr_congr _ (fun r _ => by show mh_tot b g F (x + (r + 1)) = mh_tot b g F (x + 1 + r); congr 1; omega)
    rw [mh_sumr_head]
    have e2 : mh_sumr (fun k => F (x + (k + 1))) d = mh_sumr (fun i => F (x + 1 + i)) d := mh_sumr_congr _ (fun r _ => by show F (x + (r + 1)) = F (x + 1 + r); congr 1; omega)
    rw [e2, ← c, ← e]
    rw [Nat.add_zero] at a ⊢
    omega
theorem mh_arith (v : Nat) : ∀ m, 2 * mh_sumr (fun j => v + j) (m + 1) = 2 * ((m + 1) * v) + m * (m + 1) := by
  intro m
  induction m with
  | zero => rw [mh_sumr, mh_sumr]; omega
  | succ m ih =>
    rw [mh_sumr, Nat.mul_add, ih]
    have e1 : (m + 1 + 1) * v = (m + 1) * v + v := Nat.succ_mul _ _
    have e2 : (m + 1) * (m + 1 + 1) = m * (m + 1) + 2 * (m + 1) := by rw [Nat.mul_comm, ← Nat.add_mul]
    rw [e1, e2]
    omega
noncomputable def mh_F (cs : List Nat) (s : Nat) : Nat := (mh_mn cs s).getD 0
def mh_spn (cs : List Nat) (a b : Nat) (r : Int64) : Prop := ((∃ s, a ≤ s ∧ s ≤ b ∧ mh_mn cs s = none) ∧ r = -1) ∨ ((∀ s, a ≤ s → s ≤ b → mh_mn cs s ≠ none) ∧ r = lN (mh_sumr (fun i => mh_F cs (a + i)) (b + 1 - a)))
theorem mh_spn_u {cs : List Nat} {a b : Nat} {r r' : Int64} (h : mh_spn cs a b r) (k : mh_spn cs a b r') : r = r' := by
  rcases h with ⟨⟨s, h1, h2, h3⟩, h4⟩ | ⟨h1, h2⟩
  · rcases k with ⟨_, k2⟩ | ⟨k1, _⟩
    · rw [h4, k2]
    · exact absurd h3 (k1 s h1 h2)
  · rcases k with ⟨⟨s, k1, k2, k3⟩, _⟩ | ⟨_, k2⟩
    · exact absurd k3 (h1 s k1 k2)
    · rw [h2, k2]
theorem mh_F_le {cs : List Nat} (hp : ∀ x, x ∈ cs → 1 ≤ x) (s : Nat) : mh_F cs s ≤ s := by
  unfold mh_F
  cases hm : mh_mn cs s with
  | none => exact Nat.zero_le _
  | some n => exact mh_mn_b hp hm
theorem mh_lN_m1 {n : Nat} (h : n < 2 ^ 63) : ¬ lN n = (-1 : Int64) := fun q => by
  have := congrArg Int64.toInt q
  rw [pk_lT h] at this
  have e : (-1 : Int64).toInt = -1 := rfl
  rw [e] at this
  omega
section MhSpan
variable {h : mh_H} {o a u t k v : Nat} {cs : List Nat} {w : Nat → Nat}
theorem mh_size_any (hF : mh_Fw h o a u t k v cs w) {s : Nat} (hs : s ≤ 1000000000000000) : ∃ h', f_X2_size_e o (lN s) h = some (mh_lz (mh_mn cs s), h') ∧ mh_Fw h' o a u t k v cs w ∧ mh_fr [o, t] h h' := by
  by_cases h0 : s = 0
  · subst h0
    refine ⟨h, ?_, hF, mh_fr.rfl⟩
    have z1 : lg_cmp (lN 0) (0 : Int64) ≤ 0 := (mh_cleN (a := 0) (b := 0) (by omega) (by omega)).mpr (Nat.le_refl _)
    have z2 : lg_cmp (lN 0) (0 : Int64) = 0 := (mh_ceqN (a := 0) (b := 0) (by omega) (by omega)).mpr rfl
    unfold f_X2_size_e
    rw [if_pos z1, mh_mn0]
    unfold f_X2_size_b16
    rw [if_pos z2]
    rfl
  · exact mh_fx2_sizeW hF (by omega) hs
theorem mh_fx2_togetherOfRest (hF : mh_Fw h o a u t k v cs w) {x b : Nat} (hx : x ≤ b) (hb : b ≤ 100000) :
    ∃ h' r, f_X2_togetherOfRest_e o (nI x) (nI b) h = some (r, h') ∧ mh_Fw h' o a u t k v cs w ∧ mh_fr [o, t] h h' ∧
      (((∃ s, x ≤ s ∧ s ≤ b ∧ mh_mn cs s = none) ∧ r = -1) ∨ ((∀ i, x + i * mh_tp cs ≤ b → mh_mn cs (x + i * mh_tp cs) ≠ none) ∧ r = lN (mh_tot b (mh_tp cs) (mh_F cs) x) ∧ mh_tot b (mh_tp cs) (mh_F cs) x ≤ 20000000000)) := by
  have hF0 := hF
  obtain ⟨hFe, h1, h2, fv, h3, h4⟩ := hF
  have hms := hFe.ms
  have hl := hms.1.1
  have hp : ∀ x, x ∈ cs → 1 ≤ x := fun x hx => (hms.1.2 x hx).1
  obtain ⟨g1, g2, g3, g4⟩ := mh_tp_ok hms h2
  have gp := (g1.2 _ g1.1).1
  obtain ⟨y, tn, ho⟩ := hFe.ob
  have hr := Nat.mod_lt x gp
  have hI : mh_INF = 2147483647 := rfl
  have sb : ∀ m, m ≤ 100001 → mh_sumr (fun i => mh_F cs (x + i * mh_tp cs)) m ≤ 20000000000 ∨ ∃ i, i < m ∧ b < x + i * mh_tp cs := fun m hm => by
    by_cases hq : ∃ i, i < m ∧ b < x + i * mh_tp cs
    · exact Or.inr hq
    · left
      have := mh_sumr_leb (g := fun i => mh_F cs (x + i * mh_tp cs)) (B := 100000) m (fun r hr => by
        have : ¬ b < x + r * mh_tp cs := fun c => hq ⟨r, hr, c⟩
        have := mh_F_le hp (x + r * mh_tp cs)
        show mh_F cs (x + r * mh_tp cs) ≤ 100000
        omega)
      omega
  have er : mh_irem (nI x) (nI (mh_tp cs)) = nI (x % mh_tp cs) := pk_rem (by omega) gp (by omega)
  have hrs : ∀ i, (x + i * mh_tp cs) % mh_tp cs = x % mh_tp cs := fun i => Nat.add_mul_mod_self_right _ _ _
  unfold f_X2_togetherOfRest_e
  rw [mh_gR_eq (k := 2) ho rfl, Option.bind_some, mh_cal_eq h3.1, mh_b2_eq (mh_fx0_modulus h3), mh_nz_eq (nI_ne0 gp (by omega)), er, mh_cal_eq ho, mh_b2_eq (mh_fx2_wheelFrom hF0 hr), mh_nm_eq]
  by_cases hw : w (x % mh_tp cs) = mh_INF
  · rw [if_pos hw]
    have c1 : ¬ nI b < nI x := fun q => absurd ((nI_ltI (by omega) (by omega)).mp q) (by omega)
    have c2 : ¬ nI mh_INF ≤ nI x := fun q => absurd ((nI_leI (by omega) (by omega)).mp q) (by omega)
    refine ⟨h, -1, ?_, hF0, mh_fr.rfl, Or.inl ⟨⟨x, Nat.le_refl _, hx, mh_whl_none hms h2 h4 hw⟩, rfl⟩⟩
    have ef : mh_fu = 8589934591 + 1 := rfl
    rw [ef, f_X2_togetherOfRest_b23, if_neg c1, if_neg c2, if_pos (show nI mh_INF = (2147483647 : Int32) from rfl)]
    unfold f_X2_togetherOfRest_b53
    rw [if_pos rfl]
    rfl
  · rw [if_neg hw]
    obtain ⟨f1, f2, f3, f4, f5⟩ := mh_whl_fm hms h2 h4 hr hw
    have key := mh_wh (fun n (q : Nat × mh_H) => f_X2_togetherOfRest_b23 n o (nI b) (nI (mh_tp cs)) (nI (mh_fm (mh_tp cs) w (x % mh_tp cs))) (lN (mh_sumr (fun i => mh_F cs (x + i * mh_tp cs)) q.1)) (nI (x + q.1 * mh_tp cs)) q.2)
      (fun (q : Int64 × mh_H) => some (q.1, q.2))
      (fun q => x + q.1 * mh_tp cs ≤ b + mh_tp cs ∧ (∀ i, i < q.1 → x + i * mh_tp cs ≤ b ∧ mh_mn cs (x + i * mh_tp cs) ≠ none) ∧ mh_Fw q.2 o a u t k v cs w ∧ mh_fr [o, t] h q.2) (fun q => b + mh_tp cs - (x + q.1 * mh_tp cs))
      (fun q => mh_Fw q.2 o a u t k v cs w ∧ mh_fr [o, t] h q.2 ∧ (((∃ s, x ≤ s ∧ s ≤ b ∧ mh_mn cs s = none) ∧ q.1 = -1) ∨ ((∀ i, x + i * mh_tp cs ≤ b → mh_mn cs (x + i * mh_tp cs) ≠ none) ∧ q.1 = lN (mh_tot b (mh_tp cs) (mh_F cs) x) ∧ mh_tot b (mh_tp cs) (mh_F cs) x ≤ 20000000000)))
      (fun n q hq => by
        obtain ⟨i, h5⟩ := q
        obtain ⟨q1, q2, q3, q4⟩ := hq
        have q1 : x + i * mh_tp cs ≤ b + mh_tp cs := q1
        have q2 : ∀ j, j < i → x + j * mh_tp cs ≤ b ∧ mh_mn cs (x + j * mh_tp cs) ≠ none := q2
        have q3 : mh_Fw h5 o a u t k v cs w := q3
        have q4 : mh_fr [o, t] h h5 := q4
        show (∃ s', _ ∧ _ ∧ f_X2_togetherOfRest_b23 (n + 1) o (nI b) (nI (mh_tp cs)) (nI (mh_fm (mh_tp cs) w (x % mh_tp cs))) (lN (mh_sumr (fun i => mh_F cs (x + i * mh_tp cs)) i)) (nI (x + i * mh_tp cs)) h5 = _) ∨ ∃ r, _ ∧ f_X2_togetherOfRest_b23 (n + 1) o (nI b) (nI (mh_tp cs)) (nI (mh_fm (mh_tp cs) w (x % mh_tp cs))) (lN (mh_sumr (fun i => mh_F cs (x + i * mh_tp cs)) i)) (nI (x + i * mh_tp cs)) h5 = _
        have ib : i ≤ 100001 := by
          have := Nat.mul_le_mul_left i gp
          by_cases hz : i = 0
          · omega
          · have := (q2 (i - 1) (by omega)).1
            have := Nat.mul_le_mul_left (i - 1) gp
            omega
        by_cases hc1 : b < x + i * mh_tp cs
        · right
          have hdi : (b - x) / mh_tp cs + 1 = i := by
            have hz : i ≠ 0 := fun q => by rw [q] at hc1; omega
            have := (q2 (i - 1) (by omega)).1
            have e : i * mh_tp cs = (i - 1) * mh_tp cs + mh_tp cs := by rw [← Nat.succ_mul]; congr 1; omega
            have : (b - x) / mh_tp cs = i - 1 := by
              apply Nat.div_eq_of_lt_le
              · omega
              · rw [show i - 1 + 1 = i by omega]; omega
            omega
          have et : mh_tot b (mh_tp cs) (mh_F cs) x = mh_sumr (fun i => mh_F cs (x + i * mh_tp cs)) i := by
            unfold mh_tot
            rw [if_pos hx, hdi]
          refine ⟨(lN (mh_sumr (fun i => mh_F cs (x + i * mh_tp cs)) i), h5), ⟨q3, q4, Or.inr ⟨fun j hj => ?_, by rw [et], ?_⟩⟩, ?_⟩
          · refine (q2 j (Nat.lt_of_not_le (fun hq => ?_))).2
            have := Nat.mul_le_mul_right (mh_tp cs) hq
            omega
          · rw [et]
            rcases sb i (by omega) with q | ⟨j, j1, j2⟩
            · exact q
            · have := (q2 j j1).1; omega
          · rw [f_X2_togetherOfRest_b23, if_pos ((nI_ltI (by omega) (by omega)).mpr hc1)]
            unfold f_X2_togetherOfRest_b82
            rw [if_neg (fun q => absurd ((nI_leI (by omega) (by omega)).mp q) (by omega))]
        · by_cases hc2 : mh_fm (mh_tp cs) w (x % mh_tp cs) ≤ x + i * mh_tp cs
          · right
            have hsz : ∀ j, mh_mn cs (x + (i + j) * mh_tp cs) = some ((x + i * mh_tp cs + w (x % mh_tp cs) / 1000) / mh_tp cs + j) := fun j => by
              have := (mh_whl_size hms h2 h4 (s := x + (i + j) * mh_tp cs) (by rw [hrs]; exact hw) (by rw [hrs, Nat.add_mul]; omega)).1
              rw [hrs, show x + (i + j) * mh_tp cs + w (x % mh_tp cs) / 1000 = x + i * mh_tp cs + w (x % mh_tp cs) / 1000 + j * mh_tp cs by rw [Nat.add_mul]; omega, Nat.add_mul_div_right _ _ gp] at this
              exact this
            have hs0 := hsz 0
            rw [Nat.add_zero, Nat.add_zero] at hs0
            obtain ⟨h6, e1, e2, e3⟩ := mh_size_any q3 (s := x + i * mh_tp cs) (by omega)
            rw [hs0] at e1
            obtain ⟨y5, tn5, ho5⟩ := q3.1.ob
            have hcv := mh_mn_b hp hs0
            have hst := Nat.div_le_self (b - (x + i * mh_tp cs)) (mh_tp cs)
            have hdi : (b - x) / mh_tp cs + 1 = i + ((b - (x + i * mh_tp cs)) / mh_tp cs + 1) := by
              rw [show b - x = b - (x + i * mh_tp cs) + i * mh_tp cs by omega, Nat.add_mul_div_right _ _ gp]
              omega
            have et : mh_tot b (mh_tp cs) (mh_F cs) x = mh_sumr (fun i => mh_F cs (x + i * mh_tp cs)) i + mh_sumr (fun j => (x + i * mh_tp cs + w (x % mh_tp cs) / 1000) / mh_tp cs + j) ((b - (x + i * mh_tp cs)) / mh_tp cs + 1) := by
              unfold mh_tot
              rw [if_pos hx, hdi, mh_sumr_split]
              congr 1
              refine mh_sumr_congr _ (fun r _ => ?_)
              show mh_F cs (x + (i + r) * mh_tp cs) = _
              unfold mh_F
              rw [hsz r]
              rfl
            have har := mh_arith ((x + i * mh_tp cs + w (x % mh_tp cs) / 1000) / mh_tp cs) ((b - (x + i * mh_tp cs)) / mh_tp cs)
            refine ⟨(lN (mh_tot b (mh_tp cs) (mh_F cs) x), h6), ⟨e2, q4.trans e3, Or.inr ⟨fun j hj => ?_, rfl, ?_⟩⟩, ?_⟩
            · by_cases hji : j < i
              · exact (q2 j hji).2
              · have := hsz (j - i)
                rw [show i + (j - i) = j by omega] at this
                rw [this]
                exact fun q => by cases q
            · have hm : (b - x) / mh_tp cs + 1 ≤ 100001 := by
                have := Nat.div_le_self (b - x) (mh_tp cs)
                omega
              rcases sb ((b - x) / mh_tp cs + 1) hm with q | ⟨j, j1, j2⟩
              · unfold mh_tot
                rw [if_pos hx]
                exact q
              · have h7 : j ≤ (b - x) / mh_tp cs := by omega
                have := (Nat.le_div_iff_mul_le gp).mp h7
                omega
            · rw [f_X2_togetherOfRest_b23, if_neg (fun q => hc1 ((nI_ltI (by omega) (by omega)).mp q)), if_pos ((nI_leI (by omega) (by omega)).mpr hc2)]
              unfold f_X2_togetherOfRest_b82
              rw [if_pos ((nI_leI (by omega) (by omega)).mpr (by omega)), mh_nz_eq (nI_ne0 gp (by omega)), mh_nm_eq, pk_sub (by omega), pk_div (by omega) gp (by omega), nI_l (by omega), nI_l (by omega), mh_cal_eq ho5, mh_b2_eq e1, mh_nz_eq (by decide)]
              show some ((lN _ + (lN _ + (1 : Int64)) * lN ((x + i * mh_tp cs + w (x % mh_tp cs) / 1000) / mh_tp cs)) + lN _ * (lN _ + (1 : Int64)) / (2 : Int64), h6) = _
              have hmm := Nat.mul_le_mul (show (b - (x + i * mh_tp cs)) / mh_tp cs ≤ 100000 by omega) (show (b - (x + i * mh_tp cs)) / mh_tp cs + 1 ≤ 100001 by omega)
              have e9 : lN ((b - (x + i * mh_tp cs)) / mh_tp cs * ((b - (x + i * mh_tp cs)) / mh_tp cs + 1)) / (2 : Int64) = lN ((b - (x + i * mh_tp cs)) / mh_tp cs * ((b - (x + i * mh_tp cs)) / mh_tp cs + 1) / 2) := pk_lDiv (b := 2) (by omega) (by omega) (by omega)
              rw [lN_1, lN_mul, lN_mul, lN_add, e9, lN_add, et]
              congr 3
              omega
          · obtain ⟨h6, e1, e2, e3⟩ := q3.table (s := x + i * mh_tp cs) (by omega)
            obtain ⟨y5, tn5, ho5⟩ := q3.1.ob
            have c3 : ¬ nI b < nI (x + i * mh_tp cs) := fun q => hc1 ((nI_ltI (by omega) (by omega)).mp q)
            have c4 : ¬ nI (mh_fm (mh_tp cs) w (x % mh_tp cs)) ≤ nI (x + i * mh_tp cs) := fun q => hc2 ((nI_leI (by omega) (by omega)).mp q)
            have c5 : ¬ nI (mh_fm (mh_tp cs) w (x % mh_tp cs)) = (2147483647 : Int32) := by
              rw [mh_nI_inf, nI_eq (by omega) (by omega)]
              omega
            cases hm : mh_mn cs (x + i * mh_tp cs) with
            | none =>
              right
              refine ⟨(-1, h6), ⟨e2, q4.trans e3, Or.inl ⟨⟨x + i * mh_tp cs, by omega, by omega, hm⟩, rfl⟩⟩, ?_⟩
              rw [f_X2_togetherOfRest_b23, if_neg c3, if_neg c4, if_neg c5, mh_cal_eq ho5, mh_b2_eq e1, hm]
              unfold f_X2_togetherOfRest_b53
              rw [if_pos (show mh_sz none = (-1 : Int32) from rfl)]
              rfl
            | some m =>
              left
              have hmb := mh_mn_b hp hm
              have e0 : mh_F cs (x + i * mh_tp cs) = m := by unfold mh_F; rw [hm]; rfl
              refine ⟨(i + 1, h6), ⟨by show x + (i + 1) * mh_tp cs ≤ b + mh_tp cs; rw [Nat.succ_mul]; omega, fun j hj => ?_, e2, q4.trans e3⟩, by show b + mh_tp cs - (x + (i + 1) * mh_tp cs) < b + mh_tp cs - (x + i * mh_tp cs); rw [Nat.succ_mul]; omega, ?_⟩
              · have hj : j < i + 1 := hj
                by_cases hji : j = i
                · rw [hji, hm]; exact ⟨by omega, fun q => by cases q⟩
                · exact q2 j (by omega)
              · rw [f_X2_togetherOfRest_b23, if_neg c3, if_neg c4, if_neg c5, mh_cal_eq ho5, mh_b2_eq e1, hm]
                unfold f_X2_togetherOfRest_b53
                rw [if_neg (show ¬ mh_sz (some m) = (-1 : Int32) from mh_nI_m1 (by omega)), mh_nm_eq, mh_nm_eq, nI_add]
                show f_X2_togetherOfRest_b23 n o _ _ _ (lN _ + (nI m).toInt64) _ h6 = _
                rw [nI_l (by omega), lN_add, show x + i * mh_tp cs + mh_tp cs = x + (i + 1) * mh_tp cs by rw [Nat.succ_mul]; omega]
                show _ = f_X2_togetherOfRest_b23 n o _ _ _ (lN (mh_sumr (fun i => mh_F cs (x + i * mh_tp cs)) (i + 1))) _ h6
                rw [mh_sumr, e0])
      (b + mh_tp cs) mh_fu (0, h) (by show b + mh_tp cs - (x + 0 * mh_tp cs) ≤ b + mh_tp cs; omega) ⟨by show x + 0 * mh_tp cs ≤ b + mh_tp cs; omega, fun i hi => absurd hi (Nat.not_lt_zero i), hF0, mh_fr.rfl⟩ (mh_fuel _ (by omega))
    obtain ⟨⟨r, h'⟩, ⟨z1, z2, z3⟩, z4⟩ := key
    have z4 : f_X2_togetherOfRest_b23 mh_fu o (nI b) (nI (mh_tp cs)) (nI (mh_fm (mh_tp cs) w (x % mh_tp cs))) (lN 0) (nI (x + 0 * mh_tp cs)) h = some (r, h') := z4
    rw [Nat.zero_mul, Nat.add_zero] at z4
    exact ⟨h', r, z4, z1, z2, z3⟩
theorem mh_fx2_together (hFe : mh_Fe h o a u t k v cs) {x b : Nat} (hx : x ≤ b) (hb : b ≤ 100000) : ∃ h' r, f_X2_together_e o (nI x) (nI b) h = some (r, h') ∧ mh_spn cs x b r ∧ mh_Fe h' o a u t k v cs ∧ mh_fr [o, t, k, v] h h' := by
  have hms := hFe.ms
  have hl := hms.1.1
  have hp : ∀ x, x ∈ cs → 1 ≤ x := fun x hx => (hms.1.2 x hx).1
  obtain ⟨y, tn, ho⟩ := hFe.ob
  obtain ⟨fc, hc⟩ := hFe.co
  unfold f_X2_together_e
  rw [mh_gR_eq (k := 0) ho rfl, Option.bind_some, mh_cal_eq hc.1, mh_b2_eq (mh_fx1_count hc)]
  by_cases hne : cs = []
  · subst hne
    rw [if_pos (show nI ([] : List Nat).length = 0 from rfl)]
    by_cases hb0 : b = 0
    · subst hb0
      have hx0 : x = 0 := by omega
      subst hx0
      rw [if_pos nI_0]
      refine ⟨h, _, rfl, Or.inr ⟨fun s _ hs => ?_, ?_⟩, hFe, mh_fr.rfl⟩
      · rw [show s = 0 by omega, mh_mn0]; exact fun q => by cases q
      · show (0 : Int64) = lN (mh_sumr (fun i => mh_F [] (0 + i)) 1)
        rw [mh_sumr, mh_sumr]
        unfold mh_F
        rw [Nat.add_zero, mh_mn0]
        rfl
    · rw [if_neg (nI_ne0 (by omega) (by omega))]
      exact ⟨h, _, rfl, Or.inl ⟨⟨b, hx, Nat.le_refl _, mh_mn_nil (by omega)⟩, rfl⟩, hFe, mh_fr.rfl⟩
  · have hlp := List.length_pos_iff.mpr hne
    obtain ⟨g1, g2, g3, g4⟩ := mh_tp_ok hms hne
    have gp := (g1.2 _ g1.1).1
    obtain ⟨h1, w, e1, e2, e3⟩ := mh_fx2_turn hFe hne
    rw [if_neg (nI_ne0 hlp (by omega)), mh_cal_eq ho, e1, Option.bind_some, mh_nm_eq]
    have key := mh_wh (fun n (q : Nat × mh_H) => f_X2_together_b31 n o (nI x) (nI b) (lN (mh_sumr (fun i => mh_tot b (mh_tp cs) (mh_F cs) (x + i)) q.1)) (nI (x + q.1)) q.2)
      (fun (q : Int64 × mh_H) => some (q.1, q.2))
      (fun q => q.1 ≤ mh_tp cs ∧ x + q.1 ≤ b + 1 ∧ (∀ i, i < q.1 → ∀ j, x + i + j * mh_tp cs ≤ b → mh_mn cs (x + i + j * mh_tp cs) ≠ none) ∧ mh_sumr (fun i => mh_tot b (mh_tp cs) (mh_F cs) (x + i)) q.1 ≤ q.1 * 20000000000 ∧ mh_Fw q.2 o a u t k v cs w ∧ mh_fr [o, t] h1 q.2) (fun q => mh_tp cs - q.1)
      (fun q => mh_spn cs x b q.1 ∧ mh_Fw q.2 o a u t k v cs w ∧ mh_fr [o, t] h1 q.2)
      (fun n q hq => by
        obtain ⟨i, h5⟩ := q
        obtain ⟨q1, q2, q3, q6, q4, q5⟩ := hq
        have q1 : i ≤ mh_tp cs := q1
        have q2 : x + i ≤ b + 1 := q2
        have q3 : ∀ i', i' < i → ∀ j, x + i' + j * mh_tp cs ≤ b → mh_mn cs (x + i' + j * mh_tp cs) ≠ none := q3
        have q4 : mh_Fw h5 o a u t k v cs w := q4
        have q5 : mh_fr [o, t] h1 h5 := q5
        have q6 : mh_sumr (fun i => mh_tot b (mh_tp cs) (mh_F cs) (x + i)) i ≤ i * 20000000000 := q6
        show (∃ s', _ ∧ _ ∧ f_X2_together_b31 (n + 1) o (nI x) (nI b) (lN (mh_sumr (fun i => mh_tot b (mh_tp cs) (mh_F cs) (x + i)) i)) (nI (x + i)) h5 = _) ∨ ∃ r, _ ∧ f_X2_together_b31 (n + 1) o (nI x) (nI b) (lN (mh_sumr (fun i => mh_tot b (mh_tp cs) (mh_F cs) (x + i)) i)) (nI (x + i)) h5 = _
        obtain ⟨y5, tn5, ho5⟩ := q4.1.ob
        obtain ⟨_, _, _, fv, w3, _⟩ := q4
        have fin : (i = mh_tp cs ∨ x + i = b + 1) → mh_spn cs x b (lN (mh_sumr (fun i => mh_tot b (mh_tp cs) (mh_F cs) (x + i)) i)) := fun hq => by
          refine Or.inr ⟨fun s s1 s2 => ?_, ?_⟩
          · by_cases hsi : s < x + i
            · have := q3 (s - x) (by omega) 0
              rw [Nat.zero_mul, show x + (s - x) + 0 = s by omega] at this
              exact this s2
            · rcases hq with hq | hq
              · have hd := Nat.div_add_mod (s - x) (mh_tp cs)
                have := q3 ((s - x) % mh_tp cs) (by rw [hq]; exact Nat.mod_lt _ gp) ((s - x) / mh_tp cs)
                rw [Nat.mul_comm ((s - x) / mh_tp cs), show x + (s - x) % mh_tp cs + mh_tp cs * ((s - x) / mh_tp cs) = s by omega] at this
                exact this s2
              · omega
          · rw [← mh_tot_all (b := b) gp (b + 1 - x) x (by omega)]
            congr 1
            have : ∀ d m, m + d = mh_tp cs → b < x + m → mh_sumr (fun i => mh_tot b (mh_tp cs) (mh_F cs) (x + i)) (mh_tp cs) = mh_sumr (fun i => mh_tot b (mh_tp cs) (mh_F cs) (x + i)) m := by
              intro d
              induction d with
              | zero => intro m h1 _; rw [← h1]; rfl
              | succ d ih =>
                intro m h1 h2
                rw [ih (m + 1) (by omega) (by omega), mh_sumr]
                have : mh_tot b (mh_tp cs) (mh_F cs) (x + m) = 0 := if_neg (by omega)
                rw [this, Nat.add_zero]
            rcases hq with hq | hq
            · rw [hq]
            · rw [this (mh_tp cs - i) i (by omega) (by omega)]
        by_cases hc1 : b < x + i
        · right
          refine ⟨(lN (mh_sumr (fun i => mh_tot b (mh_tp cs) (mh_F cs) (x + i)) i), h5), ⟨fin (Or.inr (by omega)), q4, q5⟩, ?_⟩
          rw [f_X2_together_b31, if_pos ((nI_ltI (by omega) (by omega)).mpr hc1)]
          rfl
        · have c1 : ¬ nI b < nI (x + i) := fun q => hc1 ((nI_ltI (by omega) (by omega)).mp q)
          by_cases hc2 : i = mh_tp cs
          · right
            refine ⟨(lN (mh_sumr (fun i => mh_tot b (mh_tp cs) (mh_F cs) (x + i)) i), h5), ⟨fin (Or.inl hc2), q4, q5⟩, ?_⟩
            rw [f_X2_together_b31, if_neg c1, mh_gR_eq (k := 2) ho5 rfl, Option.bind_some, mh_cal_eq w3.1, mh_b2_eq (mh_fx0_modulus w3), nI_add, if_pos ((nI_leI (by omega) (by omega)).mpr (by omega))]
            rfl
          · obtain ⟨h6, r, z1, z2, z3, z4⟩ := mh_fx2_togetherOfRest q4 (x := x + i) (by omega) hb
            have c2 : ¬ nI (x + mh_tp cs) ≤ nI (x + i) := fun q => absurd ((nI_leI (by omega) (by omega)).mp q) (by omega)
            rcases z4 with ⟨⟨s, s1, s2, s3⟩, s4⟩ | ⟨s1, s2, s3⟩
            · right
              refine ⟨(-1, h6), ⟨Or.inl ⟨⟨s, by omega, s2, s3⟩, rfl⟩, z2, q5.trans z3⟩, ?_⟩
              rw [f_X2_together_b31, if_neg c1, mh_gR_eq (k := 2) ho5 rfl, Option.bind_some, mh_cal_eq w3.1, mh_b2_eq (mh_fx0_modulus w3), nI_add, if_neg c2, mh_cal_eq ho5, mh_b2_eq z1, s4, if_pos ((mh_cmp0 _ _).mpr rfl)]
              rfl
            · left
              have hmul : (i + 1) * 20000000000 = i * 20000000000 + 20000000000 := Nat.succ_mul _ _
              refine ⟨(i + 1, h6), ⟨by show i + 1 ≤ mh_tp cs; omega, by show x + (i + 1) ≤ b + 1; omega, fun i' hi' j hj => ?_, ?_, z2, q5.trans z3⟩, by show mh_tp cs - (i + 1) < mh_tp cs - i; omega, ?_⟩
              · have hi' : i' < i + 1 := hi'
                by_cases hii : i' = i
                · rw [hii] at hj ⊢; exact s1 j hj
                · exact q3 i' (by omega) j hj
              · show mh_sumr (fun i => mh_tot b (mh_tp cs) (mh_F cs) (x + i)) (i + 1) ≤ (i + 1) * 20000000000
                rw [mh_sumr]
                omega
              · rw [f_X2_together_b31, if_neg c1, mh_gR_eq (k := 2) ho5 rfl, Option.bind_some, mh_cal_eq w3.1, mh_b2_eq (mh_fx0_modulus w3), nI_add, if_neg c2, mh_cal_eq ho5, mh_b2_eq z1, s2, if_neg (fun q => mh_lN_m1 (by omega) ((mh_cmp0 _ _).mp q)), mh_nm_eq, mh_nm_eq, mh_inc, lN_add]
                rfl)
      (mh_tp cs) mh_fu (0, h1) (by show mh_tp cs - 0 ≤ _; omega) ⟨Nat.zero_le _, by show x + 0 ≤ b + 1; omega, fun i hi => absurd hi (Nat.not_lt_zero i), Nat.zero_le _, e2, mh_fr.rfl⟩ (mh_fuel _ (by omega))
    obtain ⟨⟨r, h'⟩, ⟨z1, z2, z3⟩, z4⟩ := key
    have z4 : f_X2_together_b31 mh_fu o (nI x) (nI b) (lN 0) (nI (x + 0)) h1 = some (r, h') := z4
    rw [Nat.add_zero] at z4
    exact ⟨h', r, z4, z1, z2.1, (e3.sub (by simp)).trans (z3.sub (by simp))⟩
end MhSpan
