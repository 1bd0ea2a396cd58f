/-! Payings: the object at o, its rows of counts at pr 0 .. pr 199 -/
def mh_rl (pr : Nat → Nat) (n : Nat) : List Nat := (List.range n).map pr
theorem mh_rl_in {pr : Nat → Nat} {n j : Nat} (h : j < n) : pr j ∈ mh_rl pr n := List.mem_map.mpr ⟨j, List.mem_range.mpr h, rfl⟩
theorem mh_rl_ni {pr : Nat → Nat} {n b : Nat} (h : ∀ j, j < n → b ≠ pr j) : b ∉ mh_rl pr n := fun q => by
  obtain ⟨j, h1, h2⟩ := List.mem_map.mp q
  exact h j (List.mem_range.mp h1) h2.symm
def mh_Oi (h : mh_H) (cv : Nat) (pr : Nat → Nat) (n : Nat) : Prop := h cv = some (.inl (5, n, .inr (.inr (.inr (.inr (fun j => some (pr j)))))))
def mh_Ri (h : mh_H) (pr : Nat → Nat) (n m : Nat) (g : Nat → Nat → Int32) : Prop := ∀ j, j < n → h (pr j) = some (.inl (0, m, .inl (g j)))
def mh_ui (g : Nat → Nat → Int32) (j s : Nat) (x : Int32) : Nat → Nat → Int32 := fun i => if i = j then upd (g j) s x else g i
theorem mh_ui_s {g : Nat → Nat → Int32} {j s : Nat} {x : Int32} : mh_ui g j s x j s = x := by
  unfold mh_ui
  rw [if_pos rfl, pk_us]
theorem mh_ui_n {g : Nat → Nat → Int32} {j s i r : Nat} {x : Int32} (h : i ≠ j ∨ r ≠ s) : mh_ui g j s x i r = g i r := by
  unfold mh_ui
  by_cases hi : i = j
  · rw [if_pos hi, pk_un (h.resolve_left (fun q => q hi)), hi]
  · rw [if_neg hi]
theorem mh_Ri.put {h : mh_H} {pr : Nat → Nat} {n m : Nat} {g : Nat → Nat → Int32} (hr : mh_Ri h pr n m g) (hi : mh_Inj pr n) {j s : Nat} {x : Int32} (hj : j < n) : mh_Ri (mh_up h (pr j) (.inl (0, m, .inl (upd (g j) s x)))) pr n m (mh_ui g j s x) := fun i h1 => by
  unfold mh_ui
  by_cases h2 : i = j
  · rw [if_pos h2, h2]; exact mh_up_eq _ _ _
  · rw [if_neg h2, mh_up_ne (hi.ne h1 hj h2)]; exact hr i h1
def mh_sub1 (x y : List Nat) (i : Nat) : Nat := x.getD i 0 - y.getD i 0
def mh_df (x y : List Nat) : Nat := max (mh_sumr (mh_sub1 x y) 12) (mh_sumr (mh_sub1 y x) 12)
section MhPg
variable {h : mh_H} {o cv nv lv op : Nat} {pr : Nat → Nat}
theorem mh_maxs {a b : Nat} (ha : a < 2 ^ 30) (hb : b < 2 ^ 30) : (if (0 : Int32) < nI a - nI b then nI a - nI b else (0 : Int32)) = nI (a - b) ∧ (if (0 : Int32) < -(nI a - nI b) then -(nI a - nI b) else (0 : Int32)) = nI (b - a) := by
  have e : -(nI a - nI b) = nI b - nI a := Int32.neg_sub
  rw [e]
  have z : ∀ {x y : Nat}, x < 2 ^ 30 → y < 2 ^ 30 → (if (0 : Int32) < nI x - nI y then nI x - nI y else (0 : Int32)) = nI (x - y) := fun {x y} hx hy => by
    by_cases hq : y < x
    · rw [pk_sub (by omega), if_pos ((mh_ltl (a := 0) 0 rfl (by omega) (by omega)).mpr (by omega))]
    · by_cases he : x = y
      · rw [he, pk_sub (Nat.le_refl _), Nat.sub_self, nI_0]
        rfl
      · have hn : nI x - nI y < 0 := pk_sneg hy (by omega)
        rw [if_neg (fun q => Int32.lt_irrefl (Int32.lt_trans q hn)), show x - y = 0 by omega]
        rfl
  exact ⟨z ha hb, z hb ha⟩
theorem mh_fx6_difference {x : Int32} {g : Nat → Nat → Int32} {V : Nat → List Nat} {many : Nat} (ho : h o = some (.inr (6, [.ref cv, .ref nv, .ref lv, .ref op, .int x]))) (hO : mh_Oi h cv pr 200) (hR : mh_Ri h pr 200 12 g) (hm : many ≤ 200) (hV : ∀ r i, r < many → i < 12 → g r i = nI ((V r).getD i 0) ∧ (V r).getD i 0 ≤ 3000) {a b : Nat} (ha : a < many) (hb : b < many) :
    f_X6_difference_e o (nI a) (nI b) h = some (nI (mh_df (V a) (V b)), h) := by
  have key := mh_wh (fun n (i : Nat) => f_X6_difference_b8 n o (nI a) (nI b) (nI (mh_sumr (mh_sub1 (V a) (V b)) i)) (nI (mh_sumr (mh_sub1 (V b) (V a)) i)) (nI i) h) (fun (r : Int32 × mh_H) => some r) (fun i => i ≤ 12) (fun i => 12 - i) (fun r => r = (nI (mh_df (V a) (V b)), h))
    (fun n i hi => by
      by_cases hc : i < 12
      · left
        refine ⟨i + 1, hc, by omega, ?_⟩
        show f_X6_difference_b8 (n + 1) _ _ _ _ _ _ _ = _
        have c1 : ¬ (12 : Int32) ≤ nI i := fun q => absurd ((mh_lel (a := 12) 12 rfl (by omega) (by omega)).mp q) (by omega)
        obtain ⟨va, vab⟩ := hV a i ha hc
        obtain ⟨vb, vbb⟩ := hV b i hb hc
        obtain ⟨m1, m2⟩ := mh_maxs (a := (V a).getD i 0) (b := (V b).getD i 0) (by omega) (by omega)
        rw [f_X6_difference_b8, if_neg c1, mh_gR_eq (k := 0) ho rfl, Option.bind_some, mh_aR_eq hO (show a < 200 by omega) (by omega) rfl, Option.bind_some, mh_aI_eq (hR a (by omega)) hc (by omega), Option.bind_some, Option.bind_some, mh_aR_eq hO (show b < 200 by omega) (by omega) rfl, Option.bind_some, mh_aI_eq (hR b (by omega)) hc (by omega), Option.bind_some, va, vb, mh_nm_eq, m1, m2, mh_nm_eq, mh_nm_eq, mh_nm_eq, mh_inc, nI_add, nI_add]
        rfl
      · right
        have e : i = 12 := by omega
        subst e
        refine ⟨_, rfl, ?_⟩
        show f_X6_difference_b8 (n + 1) _ _ _ _ _ _ _ = _
        have b1 := mh_sumr_leb (g := mh_sub1 (V a) (V b)) (B := 3000) 12 (fun r hr => by have := (hV a r ha hr).2; unfold mh_sub1; omega)
        have b2 := mh_sumr_leb (g := mh_sub1 (V b) (V a)) (B := 3000) 12 (fun r hr => by have := (hV b r hb hr).2; unfold mh_sub1; omega)
        rw [f_X6_difference_b8, if_pos ((mh_lel (a := 12) 12 rfl (by omega) (by omega)).mpr (by omega))]
        unfold f_X6_difference_b63 mh_df
        by_cases hq : mh_sumr (mh_sub1 (V a) (V b)) 12 < mh_sumr (mh_sub1 (V b) (V a)) 12
        · rw [if_pos ((nI_ltI (by omega) (by omega)).mpr hq), Nat.max_eq_right (by omega)]
        · rw [if_neg (fun q => hq ((nI_ltI (by omega) (by omega)).mp q)), Nat.max_eq_left (by omega)]) 12 mh_fu 0 (by omega) (Nat.zero_le _) (mh_fuel _ (by omega))
  obtain ⟨r, r1, r2⟩ := key
  rw [r1] at r2
  exact r2
/-! leading from the nearest to the nearest -/
def mh_nl (led : Nat → Bool) (near : Nat → Nat) : Nat → Option Nat
  | 0 => none
  | p + 1 => match mh_nl led near p with
    | none => if led p then none else some p
    | some f => if led p = false ∧ near p < near f then some p else some f
theorem mh_nl_ok {led : Nat → Bool} {near : Nat → Nat} : ∀ n, (∀ f, mh_nl led near n = some f → f < n ∧ led f = false) ∧ (mh_nl led near n = none → ∀ p, p < n → led p = true) := by
  intro n
  induction n with
  | zero => exact ⟨fun f q => (by cases q), fun _ p hp => absurd hp (Nat.not_lt_zero p)⟩
  | succ n ih =>
    rw [mh_nl]
    cases hm : mh_nl led near n with
    | none =>
      have all := ih.2 hm
      by_cases hl : led n = true
      · refine ⟨fun f q => (by rw [if_pos hl] at q; cases q), fun _ p hp => ?_⟩
        by_cases hpn : p = n
        · rw [hpn]; exact hl
        · exact all p (by omega)
      · refine ⟨fun f q => ?_, fun q => ?_⟩
        · rw [if_neg hl] at q
          cases q
          exact ⟨by omega, by simpa using hl⟩
        · rw [if_neg hl] at q; cases q
    | some f =>
      have hf := ih.1 f hm
      refine ⟨fun x q => ?_, fun q => ?_⟩
      · by_cases hc : led n = false ∧ near n < near f
        · have q : (if led n = false ∧ near n < near f then some n else some f) = some x := q
          rw [if_pos hc] at q
          cases q
          exact ⟨by omega, hc.1⟩
        · have q : (if led n = false ∧ near n < near f then some n else some f) = some x := q
          rw [if_neg hc] at q
          cases q
          exact ⟨by omega, hf.2⟩
      · have q : (if led n = false ∧ near n < near f then some n else some f) = none := q
        by_cases hc : led n = false ∧ near n < near f
        · rw [if_pos hc] at q; cases q
        · rw [if_neg hc] at q; cases q
theorem mh_nl_congr {led led' : Nat → Bool} {near near' : Nat → Nat} : ∀ n, (∀ p, p < n → led p = led' p) → (∀ p, p < n → led p = false → near p = near' p) → mh_nl led near n = mh_nl led' near' n := by
  intro n
  induction n with
  | zero => intro _ _; rfl
  | succ n ih =>
    intro h1 h2
    have e := ih (fun p hp => h1 p (by omega)) (fun p hp => h2 p (by omega))
    have ok := mh_nl_ok (led := led) (near := near) n
    rw [mh_nl, mh_nl, ← e]
    cases hm : mh_nl led near n with
    | none => rw [h1 n (by omega)]
    | some f =>
      have hf := ok.1 f hm
      show (if led n = false ∧ near n < near f then some n else some f) = (if led' n = false ∧ near' n < near' f then some n else some f)
      rw [← h1 n (by omega), ← h2 f (by omega) hf.2]
      by_cases hl : led n = false
      · rw [h2 n (by omega) hl]
      · rw [if_neg (fun q => hl q.1), if_neg (fun q => hl q.1)]
/-- the tree after t steps: who is led to, how near, the widest -/
def mh_pm (N : Nat) (d : Nat → Nat → Nat) : Nat → (Nat → Bool) × (Nat → Nat) × Nat
  | 0 => (fun p => p == 0, fun p => d 0 p, 0)
  | t + 1 => ((fun p => (mh_pm N d t).1 p || p == (mh_nl (mh_pm N d t).1 (mh_pm N d t).2.1 N).getD 0), (fun p => min ((mh_pm N d t).2.1 p) (d ((mh_nl (mh_pm N d t).1 (mh_pm N d t).2.1 N).getD 0) p)), max (mh_pm N d t).2.2 ((mh_pm N d t).2.1 ((mh_nl (mh_pm N d t).1 (mh_pm N d t).2.1 N).getD 0)))
theorem mh_cnt_or {q : Nat → Bool} {x : Nat} : ∀ n, mh_cnt (fun p => q p || p == x) n ≤ mh_cnt q n + 1 := by
  have st : ∀ n, (x < n → mh_cnt (fun p => q p || p == x) n ≤ mh_cnt q n + 1) ∧ (n ≤ x → mh_cnt (fun p => q p || p == x) n = mh_cnt q n) := by
    intro n
    induction n with
    | zero => exact ⟨fun h => by omega, fun _ => rfl⟩
    | succ n ih =>
      refine ⟨fun h => ?_, fun h => ?_⟩
      · rw [mh_cnt, mh_cnt]
        by_cases hx : x = n
        · rw [ih.2 (by omega)]
          split <;> split <;> omega
        · have := ih.1 (by omega)
          have e : (n == x) = false := by simp; omega
          show mh_cnt (fun p => q p || p == x) n + (if (q n || n == x) = true then 1 else 0) ≤ _
          rw [e, Bool.or_false]
          omega
      · rw [mh_cnt, mh_cnt, ih.2 (by omega)]
        have e : (n == x) = false := by simp; omega
        show mh_cnt q n + (if (q n || n == x) = true then 1 else 0) = _
        rw [e, Bool.or_false]
  intro n
  by_cases hx : x < n
  · exact (st n).1 hx
  · rw [(st n).2 (by omega)]; omega
theorem mh_cnt_all {q : Nat → Bool} : ∀ n, (∀ p, p < n → q p = true) → mh_cnt q n = n := by
  intro n
  induction n with
  | zero => intro _; rfl
  | succ n ih => intro h; rw [mh_cnt, ih (fun p hp => h p (by omega)), if_pos (h n (by omega))]
theorem mh_pm_cnt (N : Nat) (d : Nat → Nat → Nat) : ∀ t, mh_cnt (mh_pm N d t).1 N ≤ t + 1 := by
  intro t
  induction t with
  | zero =>
    show mh_cnt (fun p => p == 0) N ≤ 1
    have := mh_cnt_or (q := fun _ => false) (x := 0) N
    have z : ∀ n, mh_cnt (fun _ => false) n = 0 := fun n => by
      induction n with
      | zero => rfl
      | succ n ih => rw [mh_cnt, ih]; rfl
    rw [z] at this
    rw [mh_cnt_congr (q' := fun p => false || p == 0) N (fun r _ => by simp)]
    exact this
  | succ t ih =>
    have := mh_cnt_or (q := (mh_pm N d t).1) (x := (mh_nl (mh_pm N d t).1 (mh_pm N d t).2.1 N).getD 0) N
    rw [mh_pm]
    exact Nat.le_trans this (by omega)
theorem mh_pm_next {N : Nat} {d : Nat → Nat → Nat} {t : Nat} (h : t + 1 < N) : ∃ x, mh_nl (mh_pm N d t).1 (mh_pm N d t).2.1 N = some x ∧ x < N ∧ (mh_pm N d t).1 x = false := by
  cases hm : mh_nl (mh_pm N d t).1 (mh_pm N d t).2.1 N with
  | none =>
    have := (mh_nl_ok N).2 hm
    have := mh_cnt_all N this
    have := mh_pm_cnt N d t
    omega
  | some x => exact ⟨x, rfl, (mh_nl_ok N).1 x hm⟩
end MhPg
